set_option maxHeartbeats 8000000 in
theorem th_46 {E : zE} {d : Nat} {m0 : zM} {a0 : Int} (hd : 1 ≤ d) (hI0 : zInv m0) (ha0 : 0 ≤ a0 ∧ a0 ≤ 59) : zC E d 46 [(2, 43), (0, a0)] m0 (fun v m' => ∃ r : Int, v = (0, r) ∧ 0 ≤ r ∧ r ≤ 2 ∧ m0 = m') := by
  generalize hQ : (fun (v : zV) (m' : zM) => ∃ r : Int, v = (0, r) ∧ 0 ≤ r ∧ r ≤ 2 ∧ m0 = m') = Q
  show zW E d 46 0 [(2, 43), (0, a0), (9, 0)] [] m0 Q
  refine zw_7 zr_46_0 rfl ?_
  refine zw_46r (s := 44) zr_46_1 rfl rfl rfl rfl ?_
  refine zw_7 zr_46_4 rfl ?_
  refine zw_46r (s := 1) zr_46_5 rfl rfl rfl rfl ?_
  refine zw_46r (s := 6) zr_46_8 rfl rfl rfl rfl ?_
  refine zw_3 zr_46_11 rfl ?_
  refine zw_48 (c := 6) (len := 60) zr_46_12 rfl rfl (by omega) (by omega) ?_
  intro x1 ex1
  have bx1 := ib_6 hI0 (k := (a0).toNat) (by omega)
  rw [← ex1] at bx1
  clear ex1
  refine zw_48 (c := 44) (len := 10) zr_46_13 rfl rfl (by omega) (by omega) ?_
  intro x2 ex2
  have bx2 := hI0.ra (c := 44) (len := 10) (k := (x1).toNat) rfl (by omega)
  rw [← ex2] at bx2
  clear ex2
  refine zw_7 zr_46_14 rfl ?_
  refine zw_46r (s := 44) zr_46_15 rfl rfl rfl rfl ?_
  refine zw_7 zr_46_18 rfl ?_
  refine zw_46r (s := 1) zr_46_19 rfl rfl rfl rfl ?_
  refine zw_46r (s := 7) zr_46_22 rfl rfl rfl rfl ?_
  refine zw_3 zr_46_25 rfl ?_
  refine zw_48 (c := 7) (len := 60) zr_46_26 rfl rfl (by omega) (by omega) ?_
  intro x3 ex3
  have bx3 := ib_7 hI0 (k := (a0).toNat) (by omega)
  rw [← ex3] at bx3
  clear ex3
  refine zw_48 (c := 44) (len := 10) zr_46_27 rfl rfl (by omega) (by omega) ?_
  intro x4 ex4
  have bx4 := hI0.ra (c := 44) (len := 10) (k := (x3).toNat) rfl (by omega)
  rw [← ex4] at bx4
  clear ex4
  refine zw_17h zr_46_28 ?_
  intro x5 hx5a hx5b
  refine zw_9 (L' := [(2, 43), (0, a0), (0, x5)]) zr_46_29 (Nat.le_of_ble_eq_true rfl) rfl ?_
  refine zw_7 zr_46_30 rfl ?_
  refine zw_46r (s := 1) zr_46_31 rfl rfl rfl rfl ?_
  refine zw_46r (s := 8) zr_46_34 rfl rfl rfl rfl ?_
  refine zw_3 zr_46_37 rfl ?_
  refine zw_48 (c := 8) (len := 60) zr_46_38 rfl rfl (by omega) (by omega) ?_
  intro x6 ex6
  have bx6 := ib_8 hI0 (k := (a0).toNat) (by omega)
  rw [← ex6] at bx6
  clear ex6
  by_cases h7 : x6 = 0
  · refine zw_112 (off := 25) (t := 64) zr_46_39 (by rw [h7]; rfl) rfl ?_
    refine zw_3 zr_46_64 rfl ?_
    refine zw_40_3 zr_46_65 ?_ ?_
    · intro h8
      refine zw_push zr_46_72 ?_
      refine zw_R zr_46_73 (by decide) zm_46 (v := (0, 0)) rfl ?_
      rw [← hQ]; exact ⟨_, rfl, by omega, by omega, rfl⟩
    · intro h9
      refine zw_push zr_46_68 ?_
      refine zw_42 zr_46_69 ?_
      refine zw_R zr_46_73 (by decide) zm_46 (v := (0, 2)) rfl ?_
      rw [← hQ]; exact ⟨_, rfl, by omega, by omega, rfl⟩
  by_cases h10 : x6 = 2
  · refine zw_112 (off := 35) (t := 74) zr_46_39 (by rw [h10]; rfl) rfl ?_
    refine zw_3 zr_46_74 rfl ?_
    refine zw_40_5 zr_46_75 ?_ ?_
    · intro h11
      refine zw_push zr_46_82 ?_
      refine zw_R zr_46_83 (by decide) zm_46 (v := (0, 0)) rfl ?_
      rw [← hQ]; exact ⟨_, rfl, by omega, by omega, rfl⟩
    · intro h12
      refine zw_push zr_46_78 ?_
      refine zw_42 zr_46_79 ?_
      refine zw_R zr_46_83 (by decide) zm_46 (v := (0, 2)) rfl ?_
      rw [← hQ]; exact ⟨_, rfl, by omega, by omega, rfl⟩
  refine zw_112 (off := 45) (t := 84) zr_46_39 (zlsw_df (by simp; omega)) rfl ?_
  refine zw_3 zr_46_84 rfl ?_
  refine zw_122h zr_46_85 (Nat.le_of_ble_eq_true rfl) (by omega) ?_
  intro x13 hx13a hx13b
  refine zw_push zr_46_88 ?_
  refine zw_41_2 zr_46_90 ?_ ?_
  · intro h14
    refine zw_push zr_46_97 ?_
    refine zw_R zr_46_98 (by decide) zm_46 (v := (0, 0)) rfl ?_
    rw [← hQ]; exact ⟨_, rfl, by omega, by omega, rfl⟩
  · intro h15
    refine zw_push zr_46_93 ?_
    refine zw_42 zr_46_94 ?_
    refine zw_R zr_46_98 (by decide) zm_46 (v := (0, 1)) rfl ?_
    rw [← hQ]; exact ⟨_, rfl, by omega, by omega, rfl⟩

abbrev W_47 : List (Nat × Nat) := [(43, 5), (44, 1000), (45, 1), (45, 5), (45, 6), (45, 7), (45, 8), (45, 9), (46, 1000), (47, 1000), (48, 1000), (49, 1000), (50, 1000), (51, 1000)]
set_option maxHeartbeats 8000000 in
theorem th_47 {E : zE} {d : Nat} {m0 : zM} {a0 : Int} (hd : 95 ≤ d) (hI0 : zInv m0) (ha0 : 0 ≤ a0 ∧ a0 ≤ 3) : zC E d 47 [(2, 43), (0, a0)] m0 (fun v m' => ∃ r : Int, v = (0, r) ∧ (-2147483648) ≤ r ∧ r ≤ 2147483647 ∧ zInv m' ∧ zFr W_47 m0 m') := by
  have hF0 : zFr W_47 m0 m0 := zFr.rfl
  generalize hQ : (fun (v : zV) (m' : zM) => ∃ r : Int, v = (0, r) ∧ (-2147483648) ≤ r ∧ r ≤ 2147483647 ∧ zInv m' ∧ zFr W_47 m0 m') = Q
  show zW E d 47 0 [(2, 43), (0, a0), (9, 0), (9, 0)] [] m0 Q
  refine zw_7 zr_47_0 rfl ?_
  refine zw_3 zr_47_1 rfl ?_
  refine zw_C zr_47_2 (Or.inl rfl) zm_16 rfl rfl ⟨Nat.le_of_ble_eq_true rfl, Nat.le_of_ble_eq_true rfl, Nat.le_of_ble_eq_true rfl, rfl, by decide⟩ (by omega) (th_16 (d := d - 1) (by omega) hI0 (a0 := a0)      (by omega) ) ?_
  rintro _ m1 ⟨rfl, hIm1, gm1⟩
  have hFm1 : zFr W_47 m0 m1 := hF0.trans gm1 rfl
  show zW E (d) 47 5 [(2, 43), (0, a0), (9, 0), (9, 0)] [] m1 Q
  refine zw_push zr_47_5 ?_
  refine zw_9 (L' := [(2, 43), (0, a0), (0, 0), (9, 0)]) zr_47_6 (Nat.le_of_ble_eq_true rfl) rfl ?_
  refine zw_push zr_47_7 ?_
  refine zw_9 (L' := [(2, 43), (0, a0), (0, 0), (0, 0)]) zr_47_8 (Nat.le_of_ble_eq_true rfl) rfl ?_
  have lp9_5 : ∀ (nlp9_5 : Nat) (i2 i3 : Int) (m4 : zM), zInv m4 → zFr W_47 m0 m4 → (-2147483648) ≤ i2 → i2 ≤ 2147483647 → 0 ≤ i3 → i3 ≤ 60 → (60 - i3).toNat < nlp9_5 → zW E (d) 47 9 [(2, 43), (0, a0), (0, i2), (0, i3)] [] m4 Q := by
    intro nlp9_5
    induction nlp9_5 with
    | zero =>
      intros
      exact absurd (by assumption : _ < 0) (Nat.not_lt_zero _)
    | succ nlp9_5 ihlp9_5 =>
      intro i2 i3 m4 hIm4 hFm4 li2 ui2 li3 ui3 hmlp9_5
      refine zw_3 zr_47_9 rfl ?_
      refine zw_7 zr_47_10 rfl ?_
      refine zw_46r (s := 1) zr_47_11 rfl rfl rfl rfl ?_
      obtain ⟨f7, ef7⟩ : ∃ v, m4 1 1 = v := ⟨_, rfl⟩
      have bf7 := ib_1_1 hIm4
      rw [ef7] at bf7
      refine zw_46i zr_47_14 ef7 rfl rfl rfl ?_
      refine zw_41_3 zr_47_17 ?_ ?_
      · intro h8
        refine zw_3 zr_47_50 rfl ?_
        refine zw_R zr_47_51 (by decide) zm_47 (v := (0, i2)) rfl ?_
        rw [← hQ]; exact ⟨_, rfl, by omega, by omega, hIm4, hFm4⟩
      · intro h9
        refine zw_7 zr_47_20 rfl ?_
        refine zw_46r (s := 1) zr_47_21 rfl rfl rfl rfl ?_
        refine zw_3 zr_47_24 rfl ?_
        refine zw_C zr_47_25 (Or.inl rfl) zm_18 rfl rfl ⟨Nat.le_of_ble_eq_true rfl, Nat.le_of_ble_eq_true rfl, Nat.le_of_ble_eq_true rfl, rfl, by decide⟩ (by omega) (P := (fun v m' => zW E (d) 47 28 [(2, 43), (0, a0), (0, i2), (0, i3)] (if v.1 = 9 then [] else v :: []) m' Q)) ?_ (fun _ _ h => h)
        generalize hQ1 : (fun v m' => zW E (d) 47 28 [(2, 43), (0, a0), (0, i2), (0, i3)] (if v.1 = 9 then [] else v :: []) m' Q) = Q1
        show zW E (d - 1) 18 0 [(2, 1), (0, i3)] [] m4 Q1
        refine zw_7 zr_18_0 rfl ?_
        obtain ⟨f10, ef10⟩ : ∃ v, m4 1 2 = v := ⟨_, rfl⟩
        have bf10 := ib_1_2 hIm4
        rw [ef10] at bf10
        refine zw_46l zr_18_1 ef10 rfl rfl rfl ?_
        refine zw_3 zr_18_4 rfl ?_
        refine zw_34p zr_18_5 (by omega) (by omega) ?_
        intro x11 hx11c hx11a hx11b
        refine zw_push zr_18_6 ?_
        refine zw_30o zr_18_7 (by omega) ?_
        refine zw_push zr_18_8 ?_
        refine zw_39_1 zr_18_9 zr_18_10 ?_ ?_
        · intro h12
          refine zw_push zr_18_17 ?_
          refine zw_R zr_18_18 (by decide) zm_18 (v := (0, 0)) (zRetB (by omega)) ?_
          rw [← hQ1]
          show zW E (d) 47 28 [(2, 43), (0, a0), (0, i2), (0, i3)] [(0, 0)] m4 Q
          refine zw_40_4 zr_47_28 ?_ ?_
          · intro h13; omega
          · intro h14
            refine zw_3 zr_47_31 rfl ?_
            refine zw_7 zr_47_32 rfl ?_
            refine zw_3 zr_47_33 rfl ?_
            refine zw_C zr_47_34 (Or.inl rfl) zm_46 rfl rfl ⟨Nat.le_of_ble_eq_true rfl, Nat.le_of_ble_eq_true rfl, Nat.le_of_ble_eq_true rfl, rfl, by decide⟩ (by omega) (th_46 (d := d - 1) (by omega) hIm4 (a0 := i3)      (by omega) ) ?_
            rintro _ _ ⟨r15, rfl, hr15a, hr15b, rfl⟩
            show zW E (d) 47 37 [(2, 43), (0, a0), (0, i2), (0, i3)] [(0, r15), (0, i2)] m4 Q
            refine zw_16h zr_47_37 ?_
            intro x16 hx16a hx16b
            refine zw_9 (L' := [(2, 43), (0, a0), (0, x16), (0, i3)]) zr_47_38 (Nat.le_of_ble_eq_true rfl) rfl ?_
            refine zw_7 zr_47_39 rfl ?_
            refine zw_3 zr_47_40 rfl ?_
            refine zw_C zr_47_41 (Or.inl rfl) zm_26 rfl rfl ⟨Nat.le_of_ble_eq_true rfl, Nat.le_of_ble_eq_true rfl, Nat.le_of_ble_eq_true rfl, rfl, by decide⟩ (by omega) (th_26 (d := d - 1) (by omega) hIm4 (a0 := i3)      (by omega) ) ?_
            rintro _ m17 ⟨rfl, hIm17, gm17⟩
            have hFm17 : zFr W_47 m0 m17 := hFm4.trans gm17 rfl
            have km17_1_1 : m17 1 1 = f7 := (gm17 1 1 rfl).trans ef7
            have km17_1_2 : m17 1 2 = f10 := (gm17 1 2 rfl).trans ef10
            show zW E (d) 47 44 [(2, 43), (0, a0), (0, x16), (0, i3)] [] m17 Q
            refine zw_15 (c := 1) (L' := [(2, 43), (0, a0), (0, x16), (0, (i3 + 1))]) zr_47_44 rfl (by decide) (by omega) rfl ?_
            refine zw_42 zr_47_47 ?_
            exact zw_less (L := [(2, 43), (0, a0), (0, x16), (0, (i3 + 1))]) ⟨Or.inr rfl, Or.inr rfl, Or.inr rfl, Or.inr rfl, trivial⟩ (ihlp9_5 (x16) ((i3 + 1)) m17 hIm17 hFm17   (by omega) (by omega) (by omega) (by omega)  (by omega))
        · intro h18
          refine zw_push zr_18_13 ?_
          refine zw_42 zr_18_14 ?_
          refine zw_R zr_18_18 (by decide) zm_18 (v := (0, 1)) (zRetB (by omega)) ?_
          rw [← hQ1]
          show zW E (d) 47 28 [(2, 43), (0, a0), (0, i2), (0, i3)] [(0, 1)] m4 Q
          refine zw_40_4 zr_47_28 ?_ ?_
          · intro h19
            refine zw_7 zr_47_39 rfl ?_
            refine zw_3 zr_47_40 rfl ?_
            refine zw_C zr_47_41 (Or.inl rfl) zm_26 rfl rfl ⟨Nat.le_of_ble_eq_true rfl, Nat.le_of_ble_eq_true rfl, Nat.le_of_ble_eq_true rfl, rfl, by decide⟩ (by omega) (th_26 (d := d - 1) (by omega) hIm4 (a0 := i3)      (by omega) ) ?_
            rintro _ m20 ⟨rfl, hIm20, gm20⟩
            have hFm20 : zFr W_47 m0 m20 := hFm4.trans gm20 rfl
            have km20_1_1 : m20 1 1 = f7 := (gm20 1 1 rfl).trans ef7
            have km20_1_2 : m20 1 2 = f10 := (gm20 1 2 rfl).trans ef10
            show zW E (d) 47 44 [(2, 43), (0, a0), (0, i2), (0, i3)] [] m20 Q
            refine zw_15 (c := 1) (L' := [(2, 43), (0, a0), (0, i2), (0, (i3 + 1))]) zr_47_44 rfl (by decide) (by omega) rfl ?_
            refine zw_42 zr_47_47 ?_
            exact zw_less (L := [(2, 43), (0, a0), (0, i2), (0, (i3 + 1))]) ⟨Or.inr rfl, Or.inr rfl, Or.inr rfl, Or.inr rfl, trivial⟩ (ihlp9_5 (i2) ((i3 + 1)) m20 hIm20 hFm20   (by omega) (by omega) (by omega) (by omega)  (by omega))
          · intro h21; omega
  exact lp9_5 _ (0) (0) m1 hIm1 hFm1   (by omega) (by omega) (by omega) (by omega)  (Nat.lt_succ_self _)

abbrev W_113 : List (Nat × Nat) := [(43, 5), (44, 1000), (45, 1), (45, 5), (45, 6), (45, 7), (45, 8), (45, 9), (46, 1000), (47, 1000), (48, 1000), (49, 1000), (50, 1000), (51, 1000)]
set_option maxHeartbeats 8000000 in
theorem th_113 {E : zE} {d : Nat} {m0 : zM} {a0 : Int} (hd : 96 ≤ d) (hI0 : zInv m0) (ha0 : (-2147483648) ≤ a0 ∧ a0 ≤ 2147483647) : zC E d 113 [(2, 0), (0, a0)] m0 (fun v m' => ∃ r : Int, v = (0, r) ∧ (-2147483648) ≤ r ∧ r ≤ 2147483647 ∧ zInv m' ∧ zFr W_113 m0 m') := by
  have hF0 : zFr W_113 m0 m0 := zFr.rfl
  generalize hQ : (fun (v : zV) (m' : zM) => ∃ r : Int, v = (0, r) ∧ (-2147483648) ≤ r ∧ r ≤ 2147483647 ∧ zInv m' ∧ zFr W_113 m0 m') = Q
  show zW E d 113 0 [(2, 0), (0, a0)] [] m0 Q
  refine zw_3 zr_113_0 rfl ?_
  refine zw_C zr_113_1 (Or.inr rfl) zm_104 rfl rfl ⟨Nat.le_of_ble_eq_true rfl, Nat.le_of_ble_eq_true rfl, Nat.le_of_ble_eq_true rfl, rfl, by decide⟩ (by omega) (P := (fun v m' => zW E (d) 113 4 [(2, 0), (0, a0)] (if v.1 = 9 then [] else v :: []) m' Q)) ?_ (fun _ _ h => h)
  generalize hQ1 : (fun v m' => zW E (d) 113 4 [(2, 0), (0, a0)] (if v.1 = 9 then [] else v :: []) m' Q) = Q1
  show zW E (d - 1) 104 0 [(0, a0)] [] m0 Q1
  refine zw_3 zr_104_0 rfl ?_
  refine zw_push zr_104_1 ?_
  refine zw_push zr_104_2 ?_
  refine zw_C zr_104_3 (Or.inr rfl) zm_100 rfl rfl ⟨Nat.le_of_ble_eq_true rfl, Nat.le_of_ble_eq_true rfl, Nat.le_of_ble_eq_true rfl, rfl, by decide⟩ (by omega) (P := (fun v m' => zW E (d - 1) 104 6 [(0, a0)] (if v.1 = 9 then [] else v :: []) m' Q1)) ?_ (fun _ _ h => h)
  generalize hQ2 : (fun v m' => zW E (d - 1) 104 6 [(0, a0)] (if v.1 = 9 then [] else v :: []) m' Q1) = Q2
  show zW E (d - 1 - 1) 100 0 [(0, a0), (0, 0), (0, 3)] [] m0 Q2
  refine zw_3 zr_100_0 rfl ?_
  refine zw_3 zr_100_1 rfl ?_
  refine zw_41_0 zr_100_2 ?_ ?_
  · intro h1
    refine zw_push zr_100_14 ?_
    refine zw_R zr_100_15 (by decide) zm_100 (v := (0, 0)) (zRetB (by omega)) ?_
    rw [← hQ2]
    show zW E (d - 1) 104 6 [(0, a0)] [(0, 0)] m0 Q1
    refine zw_R zr_104_6 (by decide) zm_104 (v := (0, 0)) (zRetB (by omega)) ?_
    rw [← hQ1]
    show zW E (d) 113 4 [(2, 0), (0, a0)] [(0, 0)] m0 Q
    refine zw_40_1 zr_113_4 ?_ ?_
    · intro h2
      refine zw_push zr_113_18 ?_
      refine zw_R zr_113_20 (by decide) zm_113 (v := (0, (-2))) rfl ?_
      rw [← hQ]; exact ⟨_, rfl, by omega, by omega, hI0, hF0⟩
    · intro h3; omega
  · intro h4
    refine zw_3 zr_100_5 rfl ?_
    refine zw_3 zr_100_6 rfl ?_
    refine zw_41_2 zr_100_7 ?_ ?_
    · intro h5
      refine zw_push zr_100_14 ?_
      refine zw_R zr_100_15 (by decide) zm_100 (v := (0, 0)) (zRetB (by omega)) ?_
      rw [← hQ2]
      show zW E (d - 1) 104 6 [(0, a0)] [(0, 0)] m0 Q1
      refine zw_R zr_104_6 (by decide) zm_104 (v := (0, 0)) (zRetB (by omega)) ?_
      rw [← hQ1]
      show zW E (d) 113 4 [(2, 0), (0, a0)] [(0, 0)] m0 Q
      refine zw_40_1 zr_113_4 ?_ ?_
      · intro h6
        refine zw_push zr_113_18 ?_
        refine zw_R zr_113_20 (by decide) zm_113 (v := (0, (-2))) rfl ?_
        rw [← hQ]; exact ⟨_, rfl, by omega, by omega, hI0, hF0⟩
      · intro h7; omega
    · intro h8
      refine zw_push zr_100_10 ?_
      refine zw_42 zr_100_11 ?_
      refine zw_R zr_100_15 (by decide) zm_100 (v := (0, 1)) (zRetB (by omega)) ?_
      rw [← hQ2]
      show zW E (d - 1) 104 6 [(0, a0)] [(0, 1)] m0 Q1
      refine zw_R zr_104_6 (by decide) zm_104 (v := (0, 1)) (zRetB (by omega)) ?_
      rw [← hQ1]
      show zW E (d) 113 4 [(2, 0), (0, a0)] [(0, 1)] m0 Q
      refine zw_40_1 zr_113_4 ?_ ?_
      · intro h9; omega
      · intro h10
        refine zw_7 zr_113_7 rfl ?_
        refine zw_46r (s := 43) zr_113_8 rfl rfl rfl rfl ?_
        refine zw_3 zr_113_11 rfl ?_
        refine zw_C zr_113_12 (Or.inl rfl) zm_47 rfl rfl ⟨Nat.le_of_ble_eq_true rfl, Nat.le_of_ble_eq_true rfl, Nat.le_of_ble_eq_true rfl, rfl, by decide⟩ (by omega) (th_47 (d := d - 1) (by omega) hI0 (a0 := a0)      (by omega) ) ?_
        rintro _ m11 ⟨r12, rfl, hr12a, hr12b, hIm11, gm11⟩
        have hFm11 : zFr W_113 m0 m11 := hF0.trans gm11 rfl
        show zW E (d) 113 15 [(2, 0), (0, a0)] [(0, r12)] m11 Q
        refine zw_42 zr_113_15 ?_
        refine zw_R zr_113_20 (by decide) zm_113 (v := (0, r12)) rfl ?_
        rw [← hQ]; exact ⟨_, rfl, by omega, by omega, hIm11, hFm11⟩

abbrev W_176 : List (Nat × Nat) := [(69, 5), (69, 6), (69, 7), (69, 9), (69, 11), (69, 13), (69, 17), (69, 18), (73, 1000), (74, 1000), (75, 1000), (76, 1000), (77, 1000), (78, 1000)]
set_option maxHeartbeats 8000000 in
theorem th_176 {E : zE} {d : Nat} {m0 : zM} {a0 : Int} (hd : 6 ≤ d) (hI0 : zInv m0) (ha0 : 0 ≤ a0 ∧ a0 ≤ 3) : zC E d 176 [(2, 69), (0, a0)] m0 (fun v m' => ∃ r : Int, v = (0, r) ∧ (-2147483648) ≤ r ∧ r ≤ 2147483647 ∧ zInv m' ∧ zFr W_176 m0 m') := by
  have hF0 : zFr W_176 m0 m0 := zFr.rfl
  generalize hQ : (fun (v : zV) (m' : zM) => ∃ r : Int, v = (0, r) ∧ (-2147483648) ≤ r ∧ r ≤ 2147483647 ∧ zInv m' ∧ zFr W_176 m0 m') = Q
  show zW E d 176 0 [(2, 69), (0, a0), (9, 0), (9, 0), (9, 0), (9, 0)] [] m0 Q
  refine zw_7 zr_176_0 rfl ?_
  refine zw_3 zr_176_1 rfl ?_
  refine zw_C zr_176_2 (Or.inl rfl) zm_164 rfl rfl ⟨Nat.le_of_ble_eq_true rfl, Nat.le_of_ble_eq_true rfl, Nat.le_of_ble_eq_true rfl, rfl, by decide⟩ (by omega) (th_164 (d := d - 1) (by omega) hI0 (a0 := a0)      (by omega) ) ?_
  rintro _ m1 ⟨rfl, hIm1, gm1⟩
  have hFm1 : zFr W_176 m0 m1 := hF0.trans gm1 rfl
  show zW E (d) 176 5 [(2, 69), (0, a0), (9, 0), (9, 0), (9, 0), (9, 0)] [] m1 Q
  refine zw_push zr_176_5 ?_
  refine zw_9 (L' := [(2, 69), (0, a0), (0, 0), (9, 0), (9, 0), (9, 0)]) zr_176_6 (Nat.le_of_ble_eq_true rfl) rfl ?_
  refine zw_push zr_176_7 ?_
  refine zw_9 (L' := [(2, 69), (0, a0), (0, 0), (0, 0), (9, 0), (9, 0)]) zr_176_8 (Nat.le_of_ble_eq_true rfl) rfl ?_
  have lp9_5 : ∀ (nlp9_5 : Nat) (i2 i3 : Int) (m4 : zM), zInv m4 → zFr W_176 m0 m4 → (-2147483648) ≤ i2 → i2 ≤ 2147483647 → 0 ≤ i3 → i3 ≤ 60 → (60 - i3).toNat < nlp9_5 → zW E (d) 176 9 [(2, 69), (0, a0), (0, i2), (0, i3), (9, 0), (9, 0)] [] m4 Q := by
    intro nlp9_5
    induction nlp9_5 with
    | zero =>
      intros
      exact absurd (by assumption : _ < 0) (Nat.not_lt_zero _)
    | succ nlp9_5 ihlp9_5 =>
      intro i2 i3 m4 hIm4 hFm4 li2 ui2 li3 ui3 hmlp9_5
      refine zw_3 zr_176_9 rfl ?_
      refine zw_7 zr_176_10 rfl ?_
      refine zw_C zr_176_11 (Or.inl rfl) zm_142 rfl rfl ⟨Nat.le_of_ble_eq_true rfl, Nat.le_of_ble_eq_true rfl, Nat.le_of_ble_eq_true rfl, rfl, by decide⟩ (by omega) (P := (fun v m' => zW E (d) 176 14 [(2, 69), (0, a0), (0, i2), (0, i3), (9, 0), (9, 0)] (if v.1 = 9 then [(0, i3)] else v :: [(0, i3)]) m' Q)) ?_ (fun _ _ h => h)
      generalize hQ1 : (fun v m' => zW E (d) 176 14 [(2, 69), (0, a0), (0, i2), (0, i3), (9, 0), (9, 0)] (if v.1 = 9 then [(0, i3)] else v :: [(0, i3)]) m' Q) = Q1
      show zW E (d - 1) 142 0 [(2, 69)] [] m4 Q1
      refine zw_7 zr_142_0 rfl ?_
      refine zw_46r (s := 70) zr_142_1 rfl rfl rfl rfl ?_
      refine zw_push zr_142_4 ?_
      obtain ⟨f7, ef7⟩ : ∃ v, m4 70 823 = v := ⟨_, rfl⟩
      have bf7 : 0 ≤ m4 70 823 ∧ m4 70 823 ≤ 60 := ib_70_meetings hIm4 (by omega)
      rw [ef7] at bf7
      refine zw_48k (c := 70) (len := 826) zr_142_7 rfl rfl (by omega) (by omega) (show (823 : Int).toNat = 823 by omega) ef7 ?_
      refine zw_R zr_142_8 (by decide) zm_142 (v := (0, f7)) rfl ?_
      rw [← hQ1]
      show zW E (d) 176 14 [(2, 69), (0, a0), (0, i2), (0, i3), (9, 0), (9, 0)] [(0, f7), (0, i3)] m4 Q
      refine zw_41_3 zr_176_14 ?_ ?_
      · intro h8
        refine zw_3 zr_176_129 rfl ?_
        refine zw_R zr_176_130 (by decide) zm_176 (v := (0, i2)) rfl ?_
        rw [← hQ]; exact ⟨_, rfl, by omega, by omega, hIm4, hFm4⟩
      · intro h9
        refine zw_7 zr_176_17 rfl ?_
        refine zw_46r (s := 76) zr_176_18 rfl rfl rfl rfl ?_
        refine zw_7 zr_176_21 rfl ?_
        refine zw_3 zr_176_22 rfl ?_
        refine zw_push zr_176_23 ?_
        refine zw_C zr_176_24 (Or.inl rfl) zm_144 rfl rfl ⟨Nat.le_of_ble_eq_true rfl, Nat.le_of_ble_eq_true rfl, Nat.le_of_ble_eq_true rfl, rfl, by decide⟩ (by omega) (P := (fun v m' => zW E (d) 176 27 [(2, 69), (0, a0), (0, i2), (0, i3), (9, 0), (9, 0)] (if v.1 = 9 then [(2, 76)] else v :: [(2, 76)]) m' Q)) ?_ (fun _ _ h => h)
        generalize hQ1 : (fun v m' => zW E (d) 176 27 [(2, 69), (0, a0), (0, i2), (0, i3), (9, 0), (9, 0)] (if v.1 = 9 then [(2, 76)] else v :: [(2, 76)]) m' Q) = Q1
        show zW E (d - 1) 144 0 [(2, 69), (0, i3), (0, 1)] [] m4 Q1
        refine zw_7 zr_144_0 rfl ?_
        refine zw_46r (s := 70) zr_144_1 rfl rfl rfl rfl ?_
        refine zw_push zr_144_4 ?_
        refine zw_push zr_144_6 ?_
        refine zw_3 zr_144_8 rfl ?_
        refine zw_18 zr_144_9 (by omega) ?_
        refine zw_16 zr_144_10 (by omega) ?_
        refine zw_3 zr_144_11 rfl ?_
        refine zw_16 zr_144_12 (by omega) ?_
        refine zw_48 (c := 70) (len := 826) zr_144_13 rfl rfl (by omega) (by omega) ?_
        intro x10 ex10
        have bx10 := ib_70_m1 hIm4 (k := (((90 + (6 * i3)) + 1)).toNat) (by omega)
        rw [← ex10] at bx10
        clear ex10
        refine zw_R zr_144_14 (by decide) zm_144 (v := (0, x10)) rfl ?_
        rw [← hQ1]
        show zW E (d) 176 27 [(2, 69), (0, a0), (0, i2), (0, i3), (9, 0), (9, 0)] [(0, x10), (2, 76)] m4 Q
        refine zw_48 (c := 76) (len := 10) zr_176_27 rfl rfl (by omega) (by omega) ?_
        intro x11 ex11
        have bx11 := hIm4.ra (c := 76) (len := 10) (k := (x10).toNat) rfl (by omega)
        rw [← ex11] at bx11
        clear ex11
        refine zw_7 zr_176_28 rfl ?_
        refine zw_46r (s := 76) zr_176_29 rfl rfl rfl rfl ?_
        refine zw_7 zr_176_32 rfl ?_
        refine zw_3 zr_176_33 rfl ?_
        refine zw_push zr_176_34 ?_
        refine zw_C zr_176_35 (Or.inl rfl) zm_144 rfl rfl ⟨Nat.le_of_ble_eq_true rfl, Nat.le_of_ble_eq_true rfl, Nat.le_of_ble_eq_true rfl, rfl, by decide⟩ (by omega) (P := (fun v m' => zW E (d) 176 38 [(2, 69), (0, a0), (0, i2), (0, i3), (9, 0), (9, 0)] (if v.1 = 9 then [(2, 76), (0, x11)] else v :: [(2, 76), (0, x11)]) m' Q)) ?_ (fun _ _ h => h)
        generalize hQ1 : (fun v m' => zW E (d) 176 38 [(2, 69), (0, a0), (0, i2), (0, i3), (9, 0), (9, 0)] (if v.1 = 9 then [(2, 76), (0, x11)] else v :: [(2, 76), (0, x11)]) m' Q) = Q1
        show zW E (d - 1) 144 0 [(2, 69), (0, i3), (0, 2)] [] m4 Q1
        refine zw_7 zr_144_0 rfl ?_
        refine zw_46r (s := 70) zr_144_1 rfl rfl rfl rfl ?_
        refine zw_push zr_144_4 ?_
        refine zw_push zr_144_6 ?_
        refine zw_3 zr_144_8 rfl ?_
        refine zw_18 zr_144_9 (by omega) ?_
        refine zw_16 zr_144_10 (by omega) ?_
        refine zw_3 zr_144_11 rfl ?_
        refine zw_16 zr_144_12 (by omega) ?_
        refine zw_48 (c := 70) (len := 826) zr_144_13 rfl rfl (by omega) (by omega) ?_
        intro x12 ex12
        have bx12 := ib_70_m2 hIm4 (k := (((90 + (6 * i3)) + 2)).toNat) (by omega)
        rw [← ex12] at bx12
        clear ex12
        refine zw_R zr_144_14 (by decide) zm_144 (v := (0, x12)) rfl ?_
        rw [← hQ1]
        show zW E (d) 176 38 [(2, 69), (0, a0), (0, i2), (0, i3), (9, 0), (9, 0)] [(0, x12), (2, 76), (0, x11)] m4 Q
        refine zw_48 (c := 76) (len := 10) zr_176_38 rfl rfl (by omega) (by omega) ?_
        intro x13 ex13
        have bx13 := hIm4.ra (c := 76) (len := 10) (k := (x12).toNat) rfl (by omega)
        rw [← ex13] at bx13
        clear ex13
        refine zw_17h zr_176_39 ?_
        intro x14 hx14a hx14b
        refine zw_10 (L' := [(2, 69), (0, a0), (0, i2), (0, i3), (0, x14), (9, 0)]) zr_176_40 (Nat.le_of_ble_eq_true rfl) rfl ?_
        refine zw_7 zr_176_42 rfl ?_
        refine zw_3 zr_176_43 rfl ?_
        refine zw_push zr_176_44 ?_
        refine zw_C zr_176_45 (Or.inl rfl) zm_144 rfl rfl ⟨Nat.le_of_ble_eq_true rfl, Nat.le_of_ble_eq_true rfl, Nat.le_of_ble_eq_true rfl, rfl, by decide⟩ (by omega) (P := (fun v m' => zW E (d) 176 48 [(2, 69), (0, a0), (0, i2), (0, i3), (0, x14), (9, 0)] (if v.1 = 9 then [] else v :: []) m' Q)) ?_ (fun _ _ h => h)
        generalize hQ1 : (fun v m' => zW E (d) 176 48 [(2, 69), (0, a0), (0, i2), (0, i3), (0, x14), (9, 0)] (if v.1 = 9 then [] else v :: []) m' Q) = Q1
        show zW E (d - 1) 144 0 [(2, 69), (0, i3), (0, 3)] [] m4 Q1
        refine zw_7 zr_144_0 rfl ?_
        refine zw_46r (s := 70) zr_144_1 rfl rfl rfl rfl ?_
        refine zw_push zr_144_4 ?_
        refine zw_push zr_144_6 ?_
        refine zw_3 zr_144_8 rfl ?_
        refine zw_18 zr_144_9 (by omega) ?_
        refine zw_16 zr_144_10 (by omega) ?_
        refine zw_3 zr_144_11 rfl ?_
        refine zw_16 zr_144_12 (by omega) ?_
        refine zw_48 (c := 70) (len := 826) zr_144_13 rfl rfl (by omega) (by omega) ?_
        intro x15 ex15
        have bx15 := ib_70_m3 hIm4 (k := (((90 + (6 * i3)) + 3)).toNat) (by omega)
        rw [← ex15] at bx15
        clear ex15
        refine zw_R zr_144_14 (by decide) zm_144 (v := (0, x15)) rfl ?_
        rw [← hQ1]
        show zW E (d) 176 48 [(2, 69), (0, a0), (0, i2), (0, i3), (0, x14), (9, 0)] [(0, x15)] m4 Q
        refine zw_10 (L' := [(2, 69), (0, a0), (0, i2), (0, i3), (0, x14), (0, x15)]) zr_176_48 (Nat.le_of_ble_eq_true rfl) rfl ?_
        refine zw_7 zr_176_50 rfl ?_
        refine zw_3 zr_176_51 rfl ?_
        refine zw_push zr_176_52 ?_
        refine zw_C zr_176_53 (Or.inl rfl) zm_144 rfl rfl ⟨Nat.le_of_ble_eq_true rfl, Nat.le_of_ble_eq_true rfl, Nat.le_of_ble_eq_true rfl, rfl, by decide⟩ (by omega) (P := (fun v m' => zW E (d) 176 56 [(2, 69), (0, a0), (0, i2), (0, i3), (0, x14), (0, x15)] (if v.1 = 9 then [] else v :: []) m' Q)) ?_ (fun _ _ h => h)
        generalize hQ1 : (fun v m' => zW E (d) 176 56 [(2, 69), (0, a0), (0, i2), (0, i3), (0, x14), (0, x15)] (if v.1 = 9 then [] else v :: []) m' Q) = Q1
        show zW E (d - 1) 144 0 [(2, 69), (0, i3), (0, 4)] [] m4 Q1
        refine zw_7 zr_144_0 rfl ?_
        refine zw_46r (s := 70) zr_144_1 rfl rfl rfl rfl ?_
        refine zw_push zr_144_4 ?_
        refine zw_push zr_144_6 ?_
        refine zw_3 zr_144_8 rfl ?_
        refine zw_18 zr_144_9 (by omega) ?_
        refine zw_16 zr_144_10 (by omega) ?_
        refine zw_3 zr_144_11 rfl ?_
        refine zw_16 zr_144_12 (by omega) ?_
        refine zw_48 (c := 70) (len := 826) zr_144_13 rfl rfl (by omega) (by omega) ?_
        intro x16 ex16
        have bx16 := ib_70_m4 hIm4 (k := (((90 + (6 * i3)) + 4)).toNat) (by omega)
        rw [← ex16] at bx16
        clear ex16
        refine zw_R zr_144_14 (by decide) zm_144 (v := (0, x16)) rfl ?_
        rw [← hQ1]
        show zW E (d) 176 56 [(2, 69), (0, a0), (0, i2), (0, i3), (0, x14), (0, x15)] [(0, x16)] m4 Q
        refine zw_40_4 zr_176_56 ?_ ?_
        · intro h17
          refine zw_7 zr_176_117 rfl ?_
          refine zw_3 zr_176_118 rfl ?_
          refine zw_3 zr_176_119 rfl ?_
          refine zw_C zr_176_120 (Or.inl rfl) zm_166 rfl rfl ⟨Nat.le_of_ble_eq_true rfl, Nat.le_of_ble_eq_true rfl, Nat.le_of_ble_eq_true rfl, rfl, by decide⟩ (by omega) (th_166 (d := d - 1) (by omega) hIm4 (a0 := a0) (a1 := i3)      (by omega) (by omega) ) ?_
          rintro _ m18 ⟨rfl, hIm18, gm18⟩
          have hFm18 : zFr W_176 m0 m18 := hFm4.trans gm18 rfl
          have km18_70_823 : m18 70 823 = f7 := (gm18 70 823 rfl).trans ef7
          show zW E (d) 176 123 [(2, 69), (0, a0), (0, i2), (0, i3), (0, x14), (0, x15)] [] m18 Q
          refine zw_15 (c := 1) (L' := [(2, 69), (0, a0), (0, i2), (0, (i3 + 1)), (0, x14), (0, x15)]) zr_176_123 rfl (by decide) (by omega) rfl ?_
          refine zw_42 zr_176_126 ?_
          exact zw_less (L := [(2, 69), (0, a0), (0, i2), (0, (i3 + 1)), (9, 0), (9, 0)]) ⟨Or.inr rfl, Or.inr rfl, Or.inr rfl, Or.inr rfl, Or.inl rfl, Or.inl rfl, trivial⟩ (ihlp9_5 (i2) ((i3 + 1)) m18 hIm18 hFm18   (by omega) (by omega) (by omega) (by omega)  (by omega))
        · intro h19
          refine zw_3 zr_176_59 rfl ?_
          refine zw_4 zr_176_60 rfl ?_
          refine zw_push zr_176_62 ?_
          refine zw_41_4 zr_176_63 ?_ ?_
          · intro h20
            refine zw_4 zr_176_89 rfl ?_
            refine zw_push zr_176_91 ?_
            refine zw_41_4 zr_176_92 ?_ ?_
            · intro h21
              refine zw_4 zr_176_100 rfl ?_
              refine zw_40_4 zr_176_102 ?_ ?_
              · intro h22
                refine zw_push zr_176_114 ?_
                refine zw_16 zr_176_115 (by omega) ?_
                refine zw_9 (L' := [(2, 69), (0, a0), (0, (i2 + 0)), (0, i3), (0, x14), (0, x15)]) zr_176_116 (Nat.le_of_ble_eq_true rfl) rfl ?_
                refine zw_7 zr_176_117 rfl ?_
                refine zw_3 zr_176_118 rfl ?_
                refine zw_3 zr_176_119 rfl ?_
                refine zw_C zr_176_120 (Or.inl rfl) zm_166 rfl rfl ⟨Nat.le_of_ble_eq_true rfl, Nat.le_of_ble_eq_true rfl, Nat.le_of_ble_eq_true rfl, rfl, by decide⟩ (by omega) (th_166 (d := d - 1) (by omega) hIm4 (a0 := a0) (a1 := i3)      (by omega) (by omega) ) ?_
                rintro _ m23 ⟨rfl, hIm23, gm23⟩
                have hFm23 : zFr W_176 m0 m23 := hFm4.trans gm23 rfl
                have km23_70_823 : m23 70 823 = f7 := (gm23 70 823 rfl).trans ef7
                show zW E (d) 176 123 [(2, 69), (0, a0), (0, (i2 + 0)), (0, i3), (0, x14), (0, x15)] [] m23 Q
                refine zw_15 (c := 1) (L' := [(2, 69), (0, a0), (0, (i2 + 0)), (0, (i3 + 1)), (0, x14), (0, x15)]) zr_176_123 rfl (by decide) (by omega) rfl ?_
                refine zw_42 zr_176_126 ?_
                exact zw_less (L := [(2, 69), (0, a0), (0, (i2 + 0)), (0, (i3 + 1)), (9, 0), (9, 0)]) ⟨Or.inr rfl, Or.inr rfl, Or.inr rfl, Or.inr rfl, Or.inl rfl, Or.inl rfl, trivial⟩ (ihlp9_5 ((i2 + 0)) ((i3 + 1)) m23 hIm23 hFm23   (by omega) (by omega) (by omega) (by omega)  (by omega))
              · intro h24
                refine zw_4 zr_176_105 rfl ?_
                refine zw_40_3 zr_176_107 ?_ ?_
                · intro h25
                  refine zw_push zr_176_114 ?_
                  refine zw_16 zr_176_115 (by omega) ?_
                  refine zw_9 (L' := [(2, 69), (0, a0), (0, (i2 + 0)), (0, i3), (0, x14), (0, x15)]) zr_176_116 (Nat.le_of_ble_eq_true rfl) rfl ?_
                  refine zw_7 zr_176_117 rfl ?_
                  refine zw_3 zr_176_118 rfl ?_
                  refine zw_3 zr_176_119 rfl ?_
                  refine zw_C zr_176_120 (Or.inl rfl) zm_166 rfl rfl ⟨Nat.le_of_ble_eq_true rfl, Nat.le_of_ble_eq_true rfl, Nat.le_of_ble_eq_true rfl, rfl, by decide⟩ (by omega) (th_166 (d := d - 1) (by omega) hIm4 (a0 := a0) (a1 := i3)      (by omega) (by omega) ) ?_
                  rintro _ m26 ⟨rfl, hIm26, gm26⟩
                  have hFm26 : zFr W_176 m0 m26 := hFm4.trans gm26 rfl
                  have km26_70_823 : m26 70 823 = f7 := (gm26 70 823 rfl).trans ef7
                  show zW E (d) 176 123 [(2, 69), (0, a0), (0, (i2 + 0)), (0, i3), (0, x14), (0, x15)] [] m26 Q
                  refine zw_15 (c := 1) (L' := [(2, 69), (0, a0), (0, (i2 + 0)), (0, (i3 + 1)), (0, x14), (0, x15)]) zr_176_123 rfl (by decide) (by omega) rfl ?_
                  refine zw_42 zr_176_126 ?_
                  exact zw_less (L := [(2, 69), (0, a0), (0, (i2 + 0)), (0, (i3 + 1)), (9, 0), (9, 0)]) ⟨Or.inr rfl, Or.inr rfl, Or.inr rfl, Or.inr rfl, Or.inl rfl, Or.inl rfl, trivial⟩ (ihlp9_5 ((i2 + 0)) ((i3 + 1)) m26 hIm26 hFm26   (by omega) (by omega) (by omega) (by omega)  (by omega))
                · intro h27
                  refine zw_push zr_176_110 ?_
                  refine zw_42 zr_176_111 ?_
                  refine zw_16h zr_176_115 ?_
                  intro x28 hx28a hx28b
                  refine zw_9 (L' := [(2, 69), (0, a0), (0, x28), (0, i3), (0, x14), (0, x15)]) zr_176_116 (Nat.le_of_ble_eq_true rfl) rfl ?_
                  refine zw_7 zr_176_117 rfl ?_
                  refine zw_3 zr_176_118 rfl ?_
                  refine zw_3 zr_176_119 rfl ?_
                  refine zw_C zr_176_120 (Or.inl rfl) zm_166 rfl rfl ⟨Nat.le_of_ble_eq_true rfl, Nat.le_of_ble_eq_true rfl, Nat.le_of_ble_eq_true rfl, rfl, by decide⟩ (by omega) (th_166 (d := d - 1) (by omega) hIm4 (a0 := a0) (a1 := i3)      (by omega) (by omega) ) ?_
                  rintro _ m29 ⟨rfl, hIm29, gm29⟩
                  have hFm29 : zFr W_176 m0 m29 := hFm4.trans gm29 rfl
                  have km29_70_823 : m29 70 823 = f7 := (gm29 70 823 rfl).trans ef7
                  show zW E (d) 176 123 [(2, 69), (0, a0), (0, x28), (0, i3), (0, x14), (0, x15)] [] m29 Q
                  refine zw_15 (c := 1) (L' := [(2, 69), (0, a0), (0, x28), (0, (i3 + 1)), (0, x14), (0, x15)]) zr_176_123 rfl (by decide) (by omega) rfl ?_
                  refine zw_42 zr_176_126 ?_
                  exact zw_less (L := [(2, 69), (0, a0), (0, x28), (0, (i3 + 1)), (9, 0), (9, 0)]) ⟨Or.inr rfl, Or.inr rfl, Or.inr rfl, Or.inr rfl, Or.inl rfl, Or.inl rfl, trivial⟩ (ihlp9_5 (x28) ((i3 + 1)) m29 hIm29 hFm29   (by omega) (by omega) (by omega) (by omega)  (by omega))
            · intro h30
              refine zw_4 zr_176_95 rfl ?_
              refine zw_40_2 zr_176_97 ?_ ?_
              · intro h31
                refine zw_push zr_176_110 ?_
                refine zw_42 zr_176_111 ?_
                refine zw_16h zr_176_115 ?_
                intro x32 hx32a hx32b
                refine zw_9 (L' := [(2, 69), (0, a0), (0, x32), (0, i3), (0, x14), (0, x15)]) zr_176_116 (Nat.le_of_ble_eq_true rfl) rfl ?_
                refine zw_7 zr_176_117 rfl ?_
                refine zw_3 zr_176_118 rfl ?_
                refine zw_3 zr_176_119 rfl ?_
                refine zw_C zr_176_120 (Or.inl rfl) zm_166 rfl rfl ⟨Nat.le_of_ble_eq_true rfl, Nat.le_of_ble_eq_true rfl, Nat.le_of_ble_eq_true rfl, rfl, by decide⟩ (by omega) (th_166 (d := d - 1) (by omega) hIm4 (a0 := a0) (a1 := i3)      (by omega) (by omega) ) ?_
                rintro _ m33 ⟨rfl, hIm33, gm33⟩
                have hFm33 : zFr W_176 m0 m33 := hFm4.trans gm33 rfl
                have km33_70_823 : m33 70 823 = f7 := (gm33 70 823 rfl).trans ef7
                show zW E (d) 176 123 [(2, 69), (0, a0), (0, x32), (0, i3), (0, x14), (0, x15)] [] m33 Q
                refine zw_15 (c := 1) (L' := [(2, 69), (0, a0), (0, x32), (0, (i3 + 1)), (0, x14), (0, x15)]) zr_176_123 rfl (by decide) (by omega) rfl ?_
                refine zw_42 zr_176_126 ?_
                exact zw_less (L := [(2, 69), (0, a0), (0, x32), (0, (i3 + 1)), (9, 0), (9, 0)]) ⟨Or.inr rfl, Or.inr rfl, Or.inr rfl, Or.inr rfl, Or.inl rfl, Or.inl rfl, trivial⟩ (ihlp9_5 (x32) ((i3 + 1)) m33 hIm33 hFm33   (by omega) (by omega) (by omega) (by omega)  (by omega))
              · intro h34
                refine zw_4 zr_176_100 rfl ?_
                refine zw_40_4 zr_176_102 ?_ ?_
                · intro h35
                  refine zw_push zr_176_114 ?_
                  refine zw_16 zr_176_115 (by omega) ?_
                  refine zw_9 (L' := [(2, 69), (0, a0), (0, (i2 + 0)), (0, i3), (0, x14), (0, x15)]) zr_176_116 (Nat.le_of_ble_eq_true rfl) rfl ?_
                  refine zw_7 zr_176_117 rfl ?_
                  refine zw_3 zr_176_118 rfl ?_
                  refine zw_3 zr_176_119 rfl ?_
                  refine zw_C zr_176_120 (Or.inl rfl) zm_166 rfl rfl ⟨Nat.le_of_ble_eq_true rfl, Nat.le_of_ble_eq_true rfl, Nat.le_of_ble_eq_true rfl, rfl, by decide⟩ (by omega) (th_166 (d := d - 1) (by omega) hIm4 (a0 := a0) (a1 := i3)      (by omega) (by omega) ) ?_
                  rintro _ m36 ⟨rfl, hIm36, gm36⟩
                  have hFm36 : zFr W_176 m0 m36 := hFm4.trans gm36 rfl
                  have km36_70_823 : m36 70 823 = f7 := (gm36 70 823 rfl).trans ef7
                  show zW E (d) 176 123 [(2, 69), (0, a0), (0, (i2 + 0)), (0, i3), (0, x14), (0, x15)] [] m36 Q
                  refine zw_15 (c := 1) (L' := [(2, 69), (0, a0), (0, (i2 + 0)), (0, (i3 + 1)), (0, x14), (0, x15)]) zr_176_123 rfl (by decide) (by omega) rfl ?_
                  refine zw_42 zr_176_126 ?_
                  exact zw_less (L := [(2, 69), (0, a0), (0, (i2 + 0)), (0, (i3 + 1)), (9, 0), (9, 0)]) ⟨Or.inr rfl, Or.inr rfl, Or.inr rfl, Or.inr rfl, Or.inl rfl, Or.inl rfl, trivial⟩ (ihlp9_5 ((i2 + 0)) ((i3 + 1)) m36 hIm36 hFm36   (by omega) (by omega) (by omega) (by omega)  (by omega))
                · intro h37; omega
          · intro h38
            refine zw_4 zr_176_66 rfl ?_
            refine zw_36 zr_176_68 ?_
            refine zw_push zr_176_69 ?_
            refine zw_push zr_176_72 ?_
            refine zw_C zr_176_75 (Or.inr rfl) zm_140 rfl rfl ⟨Nat.le_of_ble_eq_true rfl, Nat.le_of_ble_eq_true rfl, Nat.le_of_ble_eq_true rfl, rfl, by decide⟩ (by omega) (P := (fun v m' => zW E (d) 176 78 [(2, 69), (0, a0), (0, i2), (0, i3), (0, x14), (0, x15)] (if v.1 = 9 then [(0, i2)] else v :: [(0, i2)]) m' Q)) ?_ (fun _ _ h => h)
            generalize hQ1 : (fun v m' => zW E (d) 176 78 [(2, 69), (0, a0), (0, i2), (0, i3), (0, x14), (0, x15)] (if v.1 = 9 then [(0, i2)] else v :: [(0, i2)]) m' Q) = Q1
            show zW E (d - 1) 140 0 [(1, x14), (9, 0), (1, (-50)), (9, 0), (1, 50), (9, 0)] [] m4 Q1
            refine zw_5 zr_140_0 rfl ?_
            refine zw_5 zr_140_1 rfl ?_
            refine zw_39_0 zr_140_2 zr_140_3 ?_ ?_
            · intro h39
              refine zw_push zr_140_17 ?_
              refine zw_R zr_140_18 (by decide) zm_140 (v := (0, 0)) (zRetB (by omega)) ?_
              rw [← hQ1]
              show zW E (d) 176 78 [(2, 69), (0, a0), (0, i2), (0, i3), (0, x14), (0, x15)] [(0, 0), (0, i2)] m4 Q
              refine zw_40_1 zr_176_78 ?_ ?_
              · intro h40
                refine zw_push zr_176_85 ?_
                refine zw_42 zr_176_86 ?_
                refine zw_16 zr_176_115 (by omega) ?_
                refine zw_9 (L' := [(2, 69), (0, a0), (0, (i2 + 0)), (0, i3), (0, x14), (0, x15)]) zr_176_116 (Nat.le_of_ble_eq_true rfl) rfl ?_
                refine zw_7 zr_176_117 rfl ?_
                refine zw_3 zr_176_118 rfl ?_
                refine zw_3 zr_176_119 rfl ?_
                refine zw_C zr_176_120 (Or.inl rfl) zm_166 rfl rfl ⟨Nat.le_of_ble_eq_true rfl, Nat.le_of_ble_eq_true rfl, Nat.le_of_ble_eq_true rfl, rfl, by decide⟩ (by omega) (th_166 (d := d - 1) (by omega) hIm4 (a0 := a0) (a1 := i3)      (by omega) (by omega) ) ?_
                rintro _ m41 ⟨rfl, hIm41, gm41⟩
                have hFm41 : zFr W_176 m0 m41 := hFm4.trans gm41 rfl
                have km41_70_823 : m41 70 823 = f7 := (gm41 70 823 rfl).trans ef7
                show zW E (d) 176 123 [(2, 69), (0, a0), (0, (i2 + 0)), (0, i3), (0, x14), (0, x15)] [] m41 Q
                refine zw_15 (c := 1) (L' := [(2, 69), (0, a0), (0, (i2 + 0)), (0, (i3 + 1)), (0, x14), (0, x15)]) zr_176_123 rfl (by decide) (by omega) rfl ?_
                refine zw_42 zr_176_126 ?_
                exact zw_less (L := [(2, 69), (0, a0), (0, (i2 + 0)), (0, (i3 + 1)), (9, 0), (9, 0)]) ⟨Or.inr rfl, Or.inr rfl, Or.inr rfl, Or.inr rfl, Or.inl rfl, Or.inl rfl, trivial⟩ (ihlp9_5 ((i2 + 0)) ((i3 + 1)) m41 hIm41 hFm41   (by omega) (by omega) (by omega) (by omega)  (by omega))
              · intro h42; omega
            · intro h43
              refine zw_5 zr_140_6 rfl ?_
              refine zw_6 zr_140_7 rfl ?_
              refine zw_39_2 zr_140_9 zr_140_10 ?_ ?_
              · intro h44
                refine zw_push zr_140_17 ?_
                refine zw_R zr_140_18 (by decide) zm_140 (v := (0, 0)) (zRetB (by omega)) ?_
                rw [← hQ1]
                show zW E (d) 176 78 [(2, 69), (0, a0), (0, i2), (0, i3), (0, x14), (0, x15)] [(0, 0), (0, i2)] m4 Q
                refine zw_40_1 zr_176_78 ?_ ?_
                · intro h45
                  refine zw_push zr_176_85 ?_
                  refine zw_42 zr_176_86 ?_
                  refine zw_16 zr_176_115 (by omega) ?_
                  refine zw_9 (L' := [(2, 69), (0, a0), (0, (i2 + 0)), (0, i3), (0, x14), (0, x15)]) zr_176_116 (Nat.le_of_ble_eq_true rfl) rfl ?_
                  refine zw_7 zr_176_117 rfl ?_
                  refine zw_3 zr_176_118 rfl ?_
                  refine zw_3 zr_176_119 rfl ?_
                  refine zw_C zr_176_120 (Or.inl rfl) zm_166 rfl rfl ⟨Nat.le_of_ble_eq_true rfl, Nat.le_of_ble_eq_true rfl, Nat.le_of_ble_eq_true rfl, rfl, by decide⟩ (by omega) (th_166 (d := d - 1) (by omega) hIm4 (a0 := a0) (a1 := i3)      (by omega) (by omega) ) ?_
                  rintro _ m46 ⟨rfl, hIm46, gm46⟩
                  have hFm46 : zFr W_176 m0 m46 := hFm4.trans gm46 rfl
                  have km46_70_823 : m46 70 823 = f7 := (gm46 70 823 rfl).trans ef7
                  show zW E (d) 176 123 [(2, 69), (0, a0), (0, (i2 + 0)), (0, i3), (0, x14), (0, x15)] [] m46 Q
                  refine zw_15 (c := 1) (L' := [(2, 69), (0, a0), (0, (i2 + 0)), (0, (i3 + 1)), (0, x14), (0, x15)]) zr_176_123 rfl (by decide) (by omega) rfl ?_
                  refine zw_42 zr_176_126 ?_
                  exact zw_less (L := [(2, 69), (0, a0), (0, (i2 + 0)), (0, (i3 + 1)), (9, 0), (9, 0)]) ⟨Or.inr rfl, Or.inr rfl, Or.inr rfl, Or.inr rfl, Or.inl rfl, Or.inl rfl, trivial⟩ (ihlp9_5 ((i2 + 0)) ((i3 + 1)) m46 hIm46 hFm46   (by omega) (by omega) (by omega) (by omega)  (by omega))
                · intro h47; omega
              · intro h48
                refine zw_push zr_140_13 ?_
                refine zw_42 zr_140_14 ?_
                refine zw_R zr_140_18 (by decide) zm_140 (v := (0, 1)) (zRetB (by omega)) ?_
                rw [← hQ1]
                show zW E (d) 176 78 [(2, 69), (0, a0), (0, i2), (0, i3), (0, x14), (0, x15)] [(0, 1), (0, i2)] m4 Q
                refine zw_40_1 zr_176_78 ?_ ?_
                · intro h49; omega
                · intro h50
                  refine zw_push zr_176_81 ?_
                  refine zw_42 zr_176_82 ?_
                  refine zw_16h zr_176_115 ?_
                  intro x51 hx51a hx51b
                  refine zw_9 (L' := [(2, 69), (0, a0), (0, x51), (0, i3), (0, x14), (0, x15)]) zr_176_116 (Nat.le_of_ble_eq_true rfl) rfl ?_
                  refine zw_7 zr_176_117 rfl ?_
                  refine zw_3 zr_176_118 rfl ?_
                  refine zw_3 zr_176_119 rfl ?_
                  refine zw_C zr_176_120 (Or.inl rfl) zm_166 rfl rfl ⟨Nat.le_of_ble_eq_true rfl, Nat.le_of_ble_eq_true rfl, Nat.le_of_ble_eq_true rfl, rfl, by decide⟩ (by omega) (th_166 (d := d - 1) (by omega) hIm4 (a0 := a0) (a1 := i3)      (by omega) (by omega) ) ?_
                  rintro _ m52 ⟨rfl, hIm52, gm52⟩
                  have hFm52 : zFr W_176 m0 m52 := hFm4.trans gm52 rfl
                  have km52_70_823 : m52 70 823 = f7 := (gm52 70 823 rfl).trans ef7
                  show zW E (d) 176 123 [(2, 69), (0, a0), (0, x51), (0, i3), (0, x14), (0, x15)] [] m52 Q
                  refine zw_15 (c := 1) (L' := [(2, 69), (0, a0), (0, x51), (0, (i3 + 1)), (0, x14), (0, x15)]) zr_176_123 rfl (by decide) (by omega) rfl ?_
                  refine zw_42 zr_176_126 ?_
                  exact zw_less (L := [(2, 69), (0, a0), (0, x51), (0, (i3 + 1)), (9, 0), (9, 0)]) ⟨Or.inr rfl, Or.inr rfl, Or.inr rfl, Or.inr rfl, Or.inl rfl, Or.inl rfl, trivial⟩ (ihlp9_5 (x51) ((i3 + 1)) m52 hIm52 hFm52   (by omega) (by omega) (by omega) (by omega)  (by omega))
  exact lp9_5 _ (0) (0) m1 hIm1 hFm1   (by omega) (by omega) (by omega) (by omega)  (Nat.lt_succ_self _)

abbrev W_177 : List (Nat × Nat) := [(69, 5), (69, 6), (69, 7), (69, 9), (69, 11), (69, 13), (69, 17), (69, 18), (73, 1000), (74, 1000), (75, 1000), (76, 1000), (77, 1000), (78, 1000)]
set_option maxHeartbeats 8000000 in
theorem th_177 {E : zE} {d : Nat} {m0 : zM} {a0 : Int} (hd : 7 ≤ d) (hI0 : zInv m0) (ha0 : (-2147483648) ≤ a0 ∧ a0 ≤ 2147483647) : zC E d 177 [(2, 69), (0, a0)] m0 (fun v m' => ∃ r : Int, v = (0, r) ∧ (-2147483648) ≤ r ∧ r ≤ 2147483647 ∧ zInv m' ∧ zFr W_177 m0 m') := by
  have hF0 : zFr W_177 m0 m0 := zFr.rfl
  generalize hQ : (fun (v : zV) (m' : zM) => ∃ r : Int, v = (0, r) ∧ (-2147483648) ≤ r ∧ r ≤ 2147483647 ∧ zInv m' ∧ zFr W_177 m0 m') = Q
  show zW E d 177 0 [(2, 69), (0, a0)] [] m0 Q
  refine zw_3 zr_177_0 rfl ?_
  refine zw_C zr_177_1 (Or.inr rfl) zm_148 rfl rfl ⟨Nat.le_of_ble_eq_true rfl, Nat.le_of_ble_eq_true rfl, Nat.le_of_ble_eq_true rfl, rfl, by decide⟩ (by omega) (P := (fun v m' => zW E (d) 177 4 [(2, 69), (0, a0)] (if v.1 = 9 then [] else v :: []) m' Q)) ?_ (fun _ _ h => h)
  generalize hQ1 : (fun v m' => zW E (d) 177 4 [(2, 69), (0, a0)] (if v.1 = 9 then [] else v :: []) m' Q) = Q1
  show zW E (d - 1) 148 0 [(0, a0)] [] m0 Q1
  refine zw_3 zr_148_0 rfl ?_
  refine zw_36 zr_148_1 ?_
  refine zw_push zr_148_2 ?_
  refine zw_push zr_148_3 ?_
  refine zw_C zr_148_6 (Or.inr rfl) zm_140 rfl rfl ⟨Nat.le_of_ble_eq_true rfl, Nat.le_of_ble_eq_true rfl, Nat.le_of_ble_eq_true rfl, rfl, by decide⟩ (by omega) (P := (fun v m' => zW E (d - 1) 148 9 [(0, a0)] (if v.1 = 9 then [] else v :: []) m' Q1)) ?_ (fun _ _ h => h)
  generalize hQ2 : (fun v m' => zW E (d - 1) 148 9 [(0, a0)] (if v.1 = 9 then [] else v :: []) m' Q1) = Q2
  show zW E (d - 1 - 1) 140 0 [(1, a0), (9, 0), (1, 0), (9, 0), (1, 3), (9, 0)] [] m0 Q2
  refine zw_5 zr_140_0 rfl ?_
  refine zw_5 zr_140_1 rfl ?_
  refine zw_39_0 zr_140_2 zr_140_3 ?_ ?_
  · intro h1
    refine zw_push zr_140_17 ?_
    refine zw_R zr_140_18 (by decide) zm_140 (v := (0, 0)) (zRetB (by omega)) ?_
    rw [← hQ2]
    show zW E (d - 1) 148 9 [(0, a0)] [(0, 0)] m0 Q1
    refine zw_R zr_148_9 (by decide) zm_148 (v := (0, 0)) (zRetB (by omega)) ?_
    rw [← hQ1]
    show zW E (d) 177 4 [(2, 69), (0, a0)] [(0, 0)] m0 Q
    refine zw_40_1 zr_177_4 ?_ ?_
    · intro h2
      refine zw_push zr_177_15 ?_
      refine zw_R zr_177_17 (by decide) zm_177 (v := (0, (-2))) rfl ?_
      rw [← hQ]; exact ⟨_, rfl, by omega, by omega, hI0, hF0⟩
    · intro h3; omega
  · intro h4
    refine zw_5 zr_140_6 rfl ?_
    refine zw_6 zr_140_7 rfl ?_
    refine zw_39_2 zr_140_9 zr_140_10 ?_ ?_
    · intro h5
      refine zw_push zr_140_17 ?_
      refine zw_R zr_140_18 (by decide) zm_140 (v := (0, 0)) (zRetB (by omega)) ?_
      rw [← hQ2]
      show zW E (d - 1) 148 9 [(0, a0)] [(0, 0)] m0 Q1
      refine zw_R zr_148_9 (by decide) zm_148 (v := (0, 0)) (zRetB (by omega)) ?_
      rw [← hQ1]
      show zW E (d) 177 4 [(2, 69), (0, a0)] [(0, 0)] m0 Q
      refine zw_40_1 zr_177_4 ?_ ?_
      · intro h6
        refine zw_push zr_177_15 ?_
        refine zw_R zr_177_17 (by decide) zm_177 (v := (0, (-2))) rfl ?_
        rw [← hQ]; exact ⟨_, rfl, by omega, by omega, hI0, hF0⟩
      · intro h7; omega
    · intro h8
      refine zw_push zr_140_13 ?_
      refine zw_42 zr_140_14 ?_
      refine zw_R zr_140_18 (by decide) zm_140 (v := (0, 1)) (zRetB (by omega)) ?_
      rw [← hQ2]
      show zW E (d - 1) 148 9 [(0, a0)] [(0, 1)] m0 Q1
      refine zw_R zr_148_9 (by decide) zm_148 (v := (0, 1)) (zRetB (by omega)) ?_
      rw [← hQ1]
      show zW E (d) 177 4 [(2, 69), (0, a0)] [(0, 1)] m0 Q
      refine zw_40_1 zr_177_4 ?_ ?_
      · intro h9; omega
      · intro h10
        refine zw_7 zr_177_7 rfl ?_
        refine zw_3 zr_177_8 rfl ?_
        refine zw_C zr_177_9 (Or.inl rfl) zm_176 rfl rfl ⟨Nat.le_of_ble_eq_true rfl, Nat.le_of_ble_eq_true rfl, Nat.le_of_ble_eq_true rfl, rfl, by decide⟩ (by omega) (th_176 (d := d - 1) (by omega) hI0 (a0 := a0)      (by omega) ) ?_
        rintro _ m11 ⟨r12, rfl, hr12a, hr12b, hIm11, gm11⟩
        have hFm11 : zFr W_177 m0 m11 := hF0.trans gm11 rfl
        show zW E (d) 177 12 [(2, 69), (0, a0)] [(0, r12)] m11 Q
        refine zw_42 zr_177_12 ?_
        refine zw_R zr_177_17 (by decide) zm_177 (v := (0, r12)) rfl ?_
        rw [← hQ]; exact ⟨_, rfl, by omega, by omega, hIm11, hFm11⟩

abbrev W_114 : List (Nat × Nat) := [(43, 5), (44, 1000), (45, 1), (45, 5), (45, 6), (45, 7), (45, 8), (45, 9), (46, 1000), (47, 1000), (48, 1000), (49, 1000), (50, 1000), (51, 1000)]
set_option maxHeartbeats 8000000 in
theorem th_114 {E : zE} {d : Nat} {m0 : zM} (hd : 96 ≤ d) (hI0 : zInv m0) : zC E d 114 [(2, 0)] m0 (fun v m' => ∃ r : Int, v = (0, r) ∧ (-1) ≤ r ∧ r ≤ 3 ∧ zInv m' ∧ zFr W_114 m0 m') := by
  have hF0 : zFr W_114 m0 m0 := zFr.rfl
  generalize hQ : (fun (v : zV) (m' : zM) => ∃ r : Int, v = (0, r) ∧ (-1) ≤ r ∧ r ≤ 3 ∧ zInv m' ∧ zFr W_114 m0 m') = Q
  show zW E d 114 0 [(2, 0), (9, 0), (9, 0), (9, 0), (9, 0)] [] m0 Q
  refine zw_push zr_114_0 ?_
  refine zw_9 (L' := [(2, 0), (0, (-1)), (9, 0), (9, 0), (9, 0)]) zr_114_1 (Nat.le_of_ble_eq_true rfl) rfl ?_
  refine zw_push zr_114_2 ?_
  refine zw_9 (L' := [(2, 0), (0, (-1)), (0, (-1)), (9, 0), (9, 0)]) zr_114_3 (Nat.le_of_ble_eq_true rfl) rfl ?_
  refine zw_push zr_114_4 ?_
  refine zw_9 (L' := [(2, 0), (0, (-1)), (0, (-1)), (0, 0), (9, 0)]) zr_114_5 (Nat.le_of_ble_eq_true rfl) rfl ?_
  have lp6_5 : ∀ (nlp6_5 : Nat) (i1 i2 i3 : Int) (m4 : zM), zInv m4 → zFr W_114 m0 m4 → (-1) ≤ i1 → i1 ≤ 3 → (-1) ≤ i2 → i2 ≤ 2147483647 → 0 ≤ i3 → i3 ≤ 4 → (4 - i3).toNat < nlp6_5 → zW E (d) 114 6 [(2, 0), (0, i1), (0, i2), (0, i3), (9, 0)] [] m4 Q := by
    intro nlp6_5
    induction nlp6_5 with
    | zero =>
      intros
      exact absurd (by assumption : _ < 0) (Nat.not_lt_zero _)
    | succ nlp6_5 ihlp6_5 =>
      intro i1 i2 i3 m4 hIm4 hFm4 li1 ui1 li2 ui2 li3 ui3 hmlp6_5
      refine zw_3 zr_114_6 rfl ?_
      refine zw_push zr_114_7 ?_
      refine zw_41_3 zr_114_8 ?_ ?_
      · intro h7
        refine zw_3 zr_114_48 rfl ?_
        refine zw_R zr_114_49 (by decide) zm_114 (v := (0, i1)) rfl ?_
        rw [← hQ]; exact ⟨_, rfl, by omega, by omega, hIm4, hFm4⟩
      · intro h8
        refine zw_7 zr_114_11 rfl ?_
        refine zw_46r (s := 43) zr_114_12 rfl rfl rfl rfl ?_
        refine zw_3 zr_114_15 rfl ?_
        refine zw_C zr_114_16 (Or.inl rfl) zm_47 rfl rfl ⟨Nat.le_of_ble_eq_true rfl, Nat.le_of_ble_eq_true rfl, Nat.le_of_ble_eq_true rfl, rfl, by decide⟩ (by omega) (th_47 (d := d - 1) (by omega) hIm4 (a0 := i3)      (by omega) ) ?_
        rintro _ m9 ⟨r10, rfl, hr10a, hr10b, hIm9, gm9⟩
        have hFm9 : zFr W_114 m0 m9 := hFm4.trans gm9 rfl
        show zW E (d) 114 19 [(2, 0), (0, i1), (0, i2), (0, i3), (9, 0)] [(0, r10)] m9 Q
        refine zw_10 (L' := [(2, 0), (0, i1), (0, i2), (0, i3), (0, r10)]) zr_114_19 (Nat.le_of_ble_eq_true rfl) rfl ?_
        refine zw_7 zr_114_21 rfl ?_
        refine zw_46r (s := 43) zr_114_22 rfl rfl rfl rfl ?_
        refine zw_C zr_114_25 (Or.inl rfl) zm_17 rfl rfl ⟨Nat.le_of_ble_eq_true rfl, Nat.le_of_ble_eq_true rfl, Nat.le_of_ble_eq_true rfl, rfl, by decide⟩ (by omega) (P := (fun v m' => zW E (d) 114 28 [(2, 0), (0, i1), (0, i2), (0, i3), (0, r10)] (if v.1 = 9 then [] else v :: []) m' Q)) ?_ (fun _ _ h => h)
        generalize hQ1 : (fun v m' => zW E (d) 114 28 [(2, 0), (0, i1), (0, i2), (0, i3), (0, r10)] (if v.1 = 9 then [] else v :: []) m' Q) = Q1
        show zW E (d - 1) 17 0 [(2, 43)] [] m9 Q1
        refine zw_7 zr_17_0 rfl ?_
        refine zw_46r (s := 45) zr_17_1 rfl rfl rfl rfl ?_
        obtain ⟨f11, ef11⟩ : ∃ v, m9 45 1 = v := ⟨_, rfl⟩
        have bf11 := hIm9.fi (c := 45) (k := 1) rfl
        rw [ef11] at bf11
        refine zw_46i zr_17_4 ef11 rfl rfl rfl ?_
        refine zw_push zr_17_7 ?_
        refine zw_41_1 zr_17_8 ?_ ?_
        · intro h12
          refine zw_push zr_17_15 ?_
          refine zw_R zr_17_16 (by decide) zm_17 (v := (0, 0)) (zRetB (by omega)) ?_
          rw [← hQ1]
          show zW E (d) 114 28 [(2, 0), (0, i1), (0, i2), (0, i3), (0, r10)] [(0, 0)] m9 Q
          refine zw_40_4 zr_114_28 ?_ ?_
          · intro h13; omega
          · intro h14
            refine zw_4 zr_114_31 rfl ?_
            refine zw_3 zr_114_33 rfl ?_
            refine zw_41_5 zr_114_34 ?_ ?_
            · intro h15
              refine zw_15 (c := 1) (L' := [(2, 0), (0, i1), (0, i2), (0, (i3 + 1)), (0, r10)]) zr_114_42 rfl (by decide) (by omega) rfl ?_
              refine zw_42 zr_114_45 ?_
              exact zw_less (L := [(2, 0), (0, i1), (0, i2), (0, (i3 + 1)), (9, 0)]) ⟨Or.inr rfl, Or.inr rfl, Or.inr rfl, Or.inr rfl, Or.inl rfl, trivial⟩ (ihlp6_5 (i1) (i2) ((i3 + 1)) m9 hIm9 hFm9   (by omega) (by omega) (by omega) (by omega) (by omega) (by omega)  (by omega))
            · intro h16
              refine zw_3 zr_114_37 rfl ?_
              refine zw_9 (L' := [(2, 0), (0, i3), (0, i2), (0, i3), (0, r10)]) zr_114_38 (Nat.le_of_ble_eq_true rfl) rfl ?_
              refine zw_4 zr_114_39 rfl ?_
              refine zw_9 (L' := [(2, 0), (0, i3), (0, r10), (0, i3), (0, r10)]) zr_114_41 (Nat.le_of_ble_eq_true rfl) rfl ?_
              refine zw_15 (c := 1) (L' := [(2, 0), (0, i3), (0, r10), (0, (i3 + 1)), (0, r10)]) zr_114_42 rfl (by decide) (by omega) rfl ?_
              refine zw_42 zr_114_45 ?_
              exact zw_less (L := [(2, 0), (0, i3), (0, r10), (0, (i3 + 1)), (9, 0)]) ⟨Or.inr rfl, Or.inr rfl, Or.inr rfl, Or.inr rfl, Or.inl rfl, trivial⟩ (ihlp6_5 (i3) (r10) ((i3 + 1)) m9 hIm9 hFm9   (by omega) (by omega) (by omega) (by omega) (by omega) (by omega)  (by omega))
        · intro h17
          refine zw_push zr_17_11 ?_
          refine zw_42 zr_17_12 ?_
          refine zw_R zr_17_16 (by decide) zm_17 (v := (0, 1)) (zRetB (by omega)) ?_
          rw [← hQ1]
          show zW E (d) 114 28 [(2, 0), (0, i1), (0, i2), (0, i3), (0, r10)] [(0, 1)] m9 Q
          refine zw_40_4 zr_114_28 ?_ ?_
          · intro h18
            refine zw_15 (c := 1) (L' := [(2, 0), (0, i1), (0, i2), (0, (i3 + 1)), (0, r10)]) zr_114_42 rfl (by decide) (by omega) rfl ?_
            refine zw_42 zr_114_45 ?_
            exact zw_less (L := [(2, 0), (0, i1), (0, i2), (0, (i3 + 1)), (9, 0)]) ⟨Or.inr rfl, Or.inr rfl, Or.inr rfl, Or.inr rfl, Or.inl rfl, trivial⟩ (ihlp6_5 (i1) (i2) ((i3 + 1)) m9 hIm9 hFm9   (by omega) (by omega) (by omega) (by omega) (by omega) (by omega)  (by omega))
          · intro h19; omega
  exact lp6_5 _ ((-1)) ((-1)) (0) m0 hI0 hF0   (by omega) (by omega) (by omega) (by omega) (by omega) (by omega)  (Nat.lt_succ_self _)

abbrev W_178 : List (Nat × Nat) := [(69, 5), (69, 6), (69, 7), (69, 9), (69, 11), (69, 13), (69, 17), (69, 18), (73, 1000), (74, 1000), (75, 1000), (76, 1000), (77, 1000), (78, 1000)]
set_option maxHeartbeats 8000000 in
theorem th_178 {E : zE} {d : Nat} {m0 : zM} (hd : 7 ≤ d) (hI0 : zInv m0) : zC E d 178 [(2, 69)] m0 (fun v m' => ∃ r : Int, v = (0, r) ∧ (-1) ≤ r ∧ r ≤ 3 ∧ zInv m' ∧ zFr W_178 m0 m') := by
  have hF0 : zFr W_178 m0 m0 := zFr.rfl
  generalize hQ : (fun (v : zV) (m' : zM) => ∃ r : Int, v = (0, r) ∧ (-1) ≤ r ∧ r ≤ 3 ∧ zInv m' ∧ zFr W_178 m0 m') = Q
  show zW E d 178 0 [(2, 69), (9, 0), (9, 0), (9, 0), (9, 0)] [] m0 Q
  refine zw_push zr_178_0 ?_
  refine zw_9 (L' := [(2, 69), (0, (-1)), (9, 0), (9, 0), (9, 0)]) zr_178_1 (Nat.le_of_ble_eq_true rfl) rfl ?_
  refine zw_push zr_178_2 ?_
  refine zw_9 (L' := [(2, 69), (0, (-1)), (0, 0), (9, 0), (9, 0)]) zr_178_3 (Nat.le_of_ble_eq_true rfl) rfl ?_
  refine zw_push zr_178_4 ?_
  refine zw_9 (L' := [(2, 69), (0, (-1)), (0, 0), (0, 0), (9, 0)]) zr_178_5 (Nat.le_of_ble_eq_true rfl) rfl ?_
  have lp6_5 : ∀ (nlp6_5 : Nat) (i1 i2 i3 : Int) (m4 : zM), zInv m4 → zFr W_178 m0 m4 → (-1) ≤ i1 → i1 ≤ 3 → (-2147483648) ≤ i2 → i2 ≤ 2147483647 → 0 ≤ i3 → i3 ≤ 4 → (4 - i3).toNat < nlp6_5 → zW E (d) 178 6 [(2, 69), (0, i1), (0, i2), (0, i3), (9, 0)] [] m4 Q := by
    intro nlp6_5
    induction nlp6_5 with
    | zero =>
      intros
      exact absurd (by assumption : _ < 0) (Nat.not_lt_zero _)
    | succ nlp6_5 ihlp6_5 =>
      intro i1 i2 i3 m4 hIm4 hFm4 li1 ui1 li2 ui2 li3 ui3 hmlp6_5
      refine zw_3 zr_178_6 rfl ?_
      refine zw_push zr_178_7 ?_
      refine zw_41_3 zr_178_8 ?_ ?_
      · intro h7
        refine zw_3 zr_178_48 rfl ?_
        refine zw_R zr_178_49 (by decide) zm_178 (v := (0, i1)) rfl ?_
        rw [← hQ]; exact ⟨_, rfl, by omega, by omega, hIm4, hFm4⟩
      · intro h8
        refine zw_7 zr_178_11 rfl ?_
        refine zw_3 zr_178_12 rfl ?_
        refine zw_C zr_178_13 (Or.inl rfl) zm_162 rfl rfl ⟨Nat.le_of_ble_eq_true rfl, Nat.le_of_ble_eq_true rfl, Nat.le_of_ble_eq_true rfl, rfl, by decide⟩ (by omega) (th_162 (d := d - 1) (by omega) hIm4 (a0 := i3)      (by omega) ) ?_
        rintro _ m9 ⟨r10, rfl, hr10a, hr10b, hIm9, gm9⟩
        have hFm9 : zFr W_178 m0 m9 := hFm4.trans gm9 rfl
        show zW E (d) 178 16 [(2, 69), (0, i1), (0, i2), (0, i3), (9, 0)] [(0, r10)] m9 Q
        refine zw_40_1 zr_178_16 ?_ ?_
        · intro h11
          refine zw_15 (c := 1) (L' := [(2, 69), (0, i1), (0, i2), (0, (i3 + 1)), (9, 0)]) zr_178_42 rfl (by decide) (by omega) rfl ?_
          refine zw_42 zr_178_45 ?_
          exact zw_less (L := [(2, 69), (0, i1), (0, i2), (0, (i3 + 1)), (9, 0)]) ⟨Or.inr rfl, Or.inr rfl, Or.inr rfl, Or.inr rfl, Or.inl rfl, trivial⟩ (ihlp6_5 (i1) (i2) ((i3 + 1)) m9 hIm9 hFm9   (by omega) (by omega) (by omega) (by omega) (by omega) (by omega)  (by omega))
        · intro h12
          refine zw_7 zr_178_19 rfl ?_
          refine zw_3 zr_178_20 rfl ?_
          refine zw_C zr_178_21 (Or.inl rfl) zm_176 rfl rfl ⟨Nat.le_of_ble_eq_true rfl, Nat.le_of_ble_eq_true rfl, Nat.le_of_ble_eq_true rfl, rfl, by decide⟩ (by omega) (th_176 (d := d - 1) (by omega) hIm9 (a0 := i3)      (by omega) ) ?_
          rintro _ m13 ⟨r14, rfl, hr14a, hr14b, hIm13, gm13⟩
          have hFm13 : zFr W_178 m0 m13 := hFm9.trans gm13 rfl
          show zW E (d) 178 24 [(2, 69), (0, i1), (0, i2), (0, i3), (9, 0)] [(0, r14)] m13 Q
          refine zw_10 (L' := [(2, 69), (0, i1), (0, i2), (0, i3), (0, r14)]) zr_178_24 (Nat.le_of_ble_eq_true rfl) rfl ?_
          refine zw_3 zr_178_26 rfl ?_
          refine zw_push zr_178_27 ?_
          refine zw_41_1 zr_178_28 ?_ ?_
          · intro h15
            refine zw_3 zr_178_37 rfl ?_
            refine zw_9 (L' := [(2, 69), (0, i3), (0, i2), (0, i3), (0, r14)]) zr_178_38 (Nat.le_of_ble_eq_true rfl) rfl ?_
            refine zw_4 zr_178_39 rfl ?_
            refine zw_9 (L' := [(2, 69), (0, i3), (0, r14), (0, i3), (0, r14)]) zr_178_41 (Nat.le_of_ble_eq_true rfl) rfl ?_
            refine zw_15 (c := 1) (L' := [(2, 69), (0, i3), (0, r14), (0, (i3 + 1)), (0, r14)]) zr_178_42 rfl (by decide) (by omega) rfl ?_
            refine zw_42 zr_178_45 ?_
            exact zw_less (L := [(2, 69), (0, i3), (0, r14), (0, (i3 + 1)), (9, 0)]) ⟨Or.inr rfl, Or.inr rfl, Or.inr rfl, Or.inr rfl, Or.inl rfl, trivial⟩ (ihlp6_5 (i3) (r14) ((i3 + 1)) m13 hIm13 hFm13   (by omega) (by omega) (by omega) (by omega) (by omega) (by omega)  (by omega))
          · intro h16
            refine zw_4 zr_178_31 rfl ?_
            refine zw_3 zr_178_33 rfl ?_
            refine zw_41_5 zr_178_34 ?_ ?_
            · intro h17
              refine zw_15 (c := 1) (L' := [(2, 69), (0, i1), (0, i2), (0, (i3 + 1)), (0, r14)]) zr_178_42 rfl (by decide) (by omega) rfl ?_
              refine zw_42 zr_178_45 ?_
              exact zw_less (L := [(2, 69), (0, i1), (0, i2), (0, (i3 + 1)), (9, 0)]) ⟨Or.inr rfl, Or.inr rfl, Or.inr rfl, Or.inr rfl, Or.inl rfl, trivial⟩ (ihlp6_5 (i1) (i2) ((i3 + 1)) m13 hIm13 hFm13   (by omega) (by omega) (by omega) (by omega) (by omega) (by omega)  (by omega))
            · intro h18
              refine zw_3 zr_178_37 rfl ?_
              refine zw_9 (L' := [(2, 69), (0, i3), (0, i2), (0, i3), (0, r14)]) zr_178_38 (Nat.le_of_ble_eq_true rfl) rfl ?_
              refine zw_4 zr_178_39 rfl ?_
              refine zw_9 (L' := [(2, 69), (0, i3), (0, r14), (0, i3), (0, r14)]) zr_178_41 (Nat.le_of_ble_eq_true rfl) rfl ?_
              refine zw_15 (c := 1) (L' := [(2, 69), (0, i3), (0, r14), (0, (i3 + 1)), (0, r14)]) zr_178_42 rfl (by decide) (by omega) rfl ?_
              refine zw_42 zr_178_45 ?_
              exact zw_less (L := [(2, 69), (0, i3), (0, r14), (0, (i3 + 1)), (9, 0)]) ⟨Or.inr rfl, Or.inr rfl, Or.inr rfl, Or.inr rfl, Or.inl rfl, trivial⟩ (ihlp6_5 (i3) (r14) ((i3 + 1)) m13 hIm13 hFm13   (by omega) (by omega) (by omega) (by omega) (by omega) (by omega)  (by omega))
  exact lp6_5 _ ((-1)) (0) (0) m0 hI0 hF0   (by omega) (by omega) (by omega) (by omega) (by omega) (by omega)  (Nat.lt_succ_self _)

abbrev W_115 : List (Nat × Nat) := [(12, 1000)]
set_option maxHeartbeats 8000000 in
theorem th_115 {E : zE} {d : Nat} {m0 : zM} {a0 : Int} {a1 : Int} {F12 : Nat → Int} (hd : 2 ≤ d) (hI0 : zInv m0) (hG12 : m0 12 = F12) (ha0 : (-2147483648) ≤ a0 ∧ a0 ≤ 2147483647) (ha1 : (-2147483648) ≤ a1 ∧ a1 ≤ 2147483647) : zC E d 115 [(2, 0), (0, a0), (0, a1)] m0 (fun v m' => ∃ r : Int, v = (0, r) ∧ (-100000) ≤ r ∧ r ≤ 500 ∧ zInv m' ∧ zFr W_115 m0 m' ∧ ((r = -100000 ∧ (a0 < 0 ∨ 159 < a0 ∨ a1 < -500 ∨ 500 < a1)) ∨ (0 ≤ a0 ∧ a0 ≤ 159 ∧ -500 ≤ a1 ∧ a1 ≤ 500 ∧ -500 ≤ r ∧ r = F12 a0.toNat)) ∧ (m' 12 = if -500 ≤ r then zPt F12 a0.toNat a1 else F12)) := by
  have hF0 : zFr W_115 m0 m0 := zFr.rfl
  generalize hQ : (fun (v : zV) (m' : zM) => ∃ r : Int, v = (0, r) ∧ (-100000) ≤ r ∧ r ≤ 500 ∧ zInv m' ∧ zFr W_115 m0 m' ∧ ((r = -100000 ∧ (a0 < 0 ∨ 159 < a0 ∨ a1 < -500 ∨ 500 < a1)) ∨ (0 ≤ a0 ∧ a0 ≤ 159 ∧ -500 ≤ a1 ∧ a1 ≤ 500 ∧ -500 ≤ r ∧ r = F12 a0.toNat)) ∧ (m' 12 = if -500 ≤ r then zPt F12 a0.toNat a1 else F12)) = Q
  show zW E d 115 0 [(2, 0), (0, a0), (0, a1), (9, 0)] [] m0 Q
  refine zw_3 zr_115_0 rfl ?_
  refine zw_push zr_115_1 ?_
  refine zw_push zr_115_2 ?_
  refine zw_C zr_115_5 (Or.inr rfl) zm_100 rfl rfl ⟨Nat.le_of_ble_eq_true rfl, Nat.le_of_ble_eq_true rfl, Nat.le_of_ble_eq_true rfl, rfl, by decide⟩ (by omega) (P := (fun v m' => zW E (d) 115 8 [(2, 0), (0, a0), (0, a1), (9, 0)] (if v.1 = 9 then [] else v :: []) m' Q)) ?_ (fun _ _ h => h)
  generalize hQ1 : (fun v m' => zW E (d) 115 8 [(2, 0), (0, a0), (0, a1), (9, 0)] (if v.1 = 9 then [] else v :: []) m' Q) = Q1
  show zW E (d - 1) 100 0 [(0, a0), (0, 0), (0, 159)] [] m0 Q1
  refine zw_3 zr_100_0 rfl ?_
  refine zw_3 zr_100_1 rfl ?_
  refine zw_41_0 zr_100_2 ?_ ?_
  · intro h1
    refine zw_push zr_100_14 ?_
    refine zw_R zr_100_15 (by decide) zm_100 (v := (0, 0)) (zRetB (by omega)) ?_
    rw [← hQ1]
    show zW E (d) 115 8 [(2, 0), (0, a0), (0, a1), (9, 0)] [(0, 0)] m0 Q
    refine zw_40_1 zr_115_8 ?_ ?_
    · intro h2
      refine zw_push zr_115_24 ?_
      refine zw_R zr_115_26 (by decide) zm_115 (v := (0, (-100000))) rfl ?_
      rw [← hQ]; exact ⟨_, rfl, by omega, by omega, hI0, hF0, by omega, by rw [hG12]; first | exact (if_neg (by omega)).symm | exact (if_pos (by omega)).symm⟩
    · intro h5; omega
  · intro h6
    refine zw_3 zr_100_5 rfl ?_
    refine zw_3 zr_100_6 rfl ?_
    refine zw_41_2 zr_100_7 ?_ ?_
    · intro h7
      refine zw_push zr_100_14 ?_
      refine zw_R zr_100_15 (by decide) zm_100 (v := (0, 0)) (zRetB (by omega)) ?_
      rw [← hQ1]
      show zW E (d) 115 8 [(2, 0), (0, a0), (0, a1), (9, 0)] [(0, 0)] m0 Q
      refine zw_40_1 zr_115_8 ?_ ?_
      · intro h8
        refine zw_push zr_115_24 ?_
        refine zw_R zr_115_26 (by decide) zm_115 (v := (0, (-100000))) rfl ?_
        rw [← hQ]; exact ⟨_, rfl, by omega, by omega, hI0, hF0, by omega, by rw [hG12]; first | exact (if_neg (by omega)).symm | exact (if_pos (by omega)).symm⟩
      · intro h11; omega
    · intro h12
      refine zw_push zr_100_10 ?_
      refine zw_42 zr_100_11 ?_
      refine zw_R zr_100_15 (by decide) zm_100 (v := (0, 1)) (zRetB (by omega)) ?_
      rw [← hQ1]
      show zW E (d) 115 8 [(2, 0), (0, a0), (0, a1), (9, 0)] [(0, 1)] m0 Q
      refine zw_40_1 zr_115_8 ?_ ?_
      · intro h13; omega
      · intro h14
        refine zw_3 zr_115_11 rfl ?_
        refine zw_push zr_115_12 ?_
        refine zw_push zr_115_15 ?_
        refine zw_C zr_115_18 (Or.inr rfl) zm_100 rfl rfl ⟨Nat.le_of_ble_eq_true rfl, Nat.le_of_ble_eq_true rfl, Nat.le_of_ble_eq_true rfl, rfl, by decide⟩ (by omega) (P := (fun v m' => zW E (d) 115 21 [(2, 0), (0, a0), (0, a1), (9, 0)] (if v.1 = 9 then [] else v :: []) m' Q)) ?_ (fun _ _ h => h)
        generalize hQ1 : (fun v m' => zW E (d) 115 21 [(2, 0), (0, a0), (0, a1), (9, 0)] (if v.1 = 9 then [] else v :: []) m' Q) = Q1
        show zW E (d - 1) 100 0 [(0, a1), (0, (-500)), (0, 500)] [] m0 Q1
        refine zw_3 zr_100_0 rfl ?_
        refine zw_3 zr_100_1 rfl ?_
        refine zw_41_0 zr_100_2 ?_ ?_
        · intro h15
          refine zw_push zr_100_14 ?_
          refine zw_R zr_100_15 (by decide) zm_100 (v := (0, 0)) (zRetB (by omega)) ?_
          rw [← hQ1]
          show zW E (d) 115 21 [(2, 0), (0, a0), (0, a1), (9, 0)] [(0, 0)] m0 Q
          refine zw_40_4 zr_115_21 ?_ ?_
          · intro h16; omega
          · intro h17
            refine zw_push zr_115_24 ?_
            refine zw_R zr_115_26 (by decide) zm_115 (v := (0, (-100000))) rfl ?_
            rw [← hQ]; exact ⟨_, rfl, by omega, by omega, hI0, hF0, by omega, by rw [hG12]; first | exact (if_neg (by omega)).symm | exact (if_pos (by omega)).symm⟩
        · intro h20
          refine zw_3 zr_100_5 rfl ?_
          refine zw_3 zr_100_6 rfl ?_
          refine zw_41_2 zr_100_7 ?_ ?_
          · intro h21
            refine zw_push zr_100_14 ?_
            refine zw_R zr_100_15 (by decide) zm_100 (v := (0, 0)) (zRetB (by omega)) ?_
            rw [← hQ1]
            show zW E (d) 115 21 [(2, 0), (0, a0), (0, a1), (9, 0)] [(0, 0)] m0 Q
            refine zw_40_4 zr_115_21 ?_ ?_
            · intro h22; omega
            · intro h23
              refine zw_push zr_115_24 ?_
              refine zw_R zr_115_26 (by decide) zm_115 (v := (0, (-100000))) rfl ?_
              rw [← hQ]; exact ⟨_, rfl, by omega, by omega, hI0, hF0, by omega, by rw [hG12]; first | exact (if_neg (by omega)).symm | exact (if_pos (by omega)).symm⟩
          · intro h26
            refine zw_push zr_100_10 ?_
            refine zw_42 zr_100_11 ?_
            refine zw_R zr_100_15 (by decide) zm_100 (v := (0, 1)) (zRetB (by omega)) ?_
            rw [← hQ1]
            show zW E (d) 115 21 [(2, 0), (0, a0), (0, a1), (9, 0)] [(0, 1)] m0 Q
            refine zw_40_4 zr_115_21 ?_ ?_
            · intro h27
              refine zw_7 zr_115_27 rfl ?_
              refine zw_46r (s := 1) zr_115_28 rfl rfl rfl rfl ?_
              refine zw_46r (s := 12) zr_115_31 rfl rfl rfl rfl ?_
              refine zw_3 zr_115_34 rfl ?_
              refine zw_48 (c := 12) (len := 160) zr_115_35 rfl rfl (by omega) (by omega) ?_
              intro x28 ex28
              have bx28 := ib_12 hI0 (k := (a0).toNat) (by omega)
              rw [← ex28] at bx28
              have qx28 : x28 = F12 (a0).toNat := by rw [← hG12]; exact ex28
              clear ex28
              refine zw_9 (L' := [(2, 0), (0, a0), (0, a1), (0, x28)]) zr_115_36 (Nat.le_of_ble_eq_true rfl) rfl ?_
              refine zw_7 zr_115_37 rfl ?_
              refine zw_46r (s := 1) zr_115_38 rfl rfl rfl rfl ?_
              refine zw_46r (s := 12) zr_115_41 rfl rfl rfl rfl ?_
              refine zw_3 zr_115_44 rfl ?_
              refine zw_3 zr_115_45 rfl ?_
              refine zw_49 (c := 12) (len := 160) zr_115_46 rfl rfl (by omega) (by omega) ?_
              intro m29 em29
              have hIm29 : zInv m29 := by rw [em29]; exact iu_12 hI0 (by omega)
              have hFm29 : zFr W_115 m0 m29 := by rw [em29]; exact hF0.any rfl
              have fm29_12 : m29 12 = zPt F12 ((a0).toNat) a1 := by rw [em29]; exact (zUp_ff (m := m0)).trans (congrArg (fun q => zPt q ((a0).toNat) a1) hG12)
              clear em29
              refine zw_3 zr_115_47 rfl ?_
              refine zw_R zr_115_48 (by decide) zm_115 (v := (0, x28)) rfl ?_
              rw [← hQ]; exact ⟨_, rfl, by omega, by omega, hIm29, hFm29, by omega, by rw [fm29_12]; first | exact (if_neg (by omega)).symm | exact (if_pos (by omega)).symm⟩
            · intro h32; omega

abbrev W_179 : List (Nat × Nat) := [(70, 1000)]
set_option maxHeartbeats 8000000 in
theorem th_179 {E : zE} {d : Nat} {m0 : zM} {a0 : Int} {a1 : Int} {F70 : Nat → Int} (hd : 2 ≤ d) (hI0 : zInv m0) (hG70 : m0 70 = F70) (ha0 : (-2147483648) ≤ a0 ∧ a0 ≤ 2147483647) (ha1 : (-2147483648) ≤ a1 ∧ a1 ≤ 2147483647) : zC E d 179 [(2, 69), (0, a0), (0, a1)] m0 (fun v m' => ∃ r : Int, v = (0, r) ∧ (-100000) ≤ r ∧ r ≤ 500 ∧ zInv m' ∧ zFr W_179 m0 m' ∧ ((r = -100000 ∧ (a0 < 0 ∨ 159 < a0 ∨ a1 < -500 ∨ 500 < a1)) ∨ (0 ≤ a0 ∧ a0 ≤ 159 ∧ -500 ≤ a1 ∧ a1 ≤ 500 ∧ -500 ≤ r ∧ r = F70 (658 + a0).toNat)) ∧ (m' 70 = if -500 ≤ r then zPt F70 (658 + a0).toNat a1 else F70)) := by
  have hF0 : zFr W_179 m0 m0 := zFr.rfl
  generalize hQ : (fun (v : zV) (m' : zM) => ∃ r : Int, v = (0, r) ∧ (-100000) ≤ r ∧ r ≤ 500 ∧ zInv m' ∧ zFr W_179 m0 m' ∧ ((r = -100000 ∧ (a0 < 0 ∨ 159 < a0 ∨ a1 < -500 ∨ 500 < a1)) ∨ (0 ≤ a0 ∧ a0 ≤ 159 ∧ -500 ≤ a1 ∧ a1 ≤ 500 ∧ -500 ≤ r ∧ r = F70 (658 + a0).toNat)) ∧ (m' 70 = if -500 ≤ r then zPt F70 (658 + a0).toNat a1 else F70)) = Q
  show zW E d 179 0 [(2, 69), (0, a0), (0, a1), (9, 0)] [] m0 Q
  refine zw_3 zr_179_0 rfl ?_
  refine zw_36 zr_179_1 ?_
  refine zw_push zr_179_2 ?_
  refine zw_push zr_179_3 ?_
  refine zw_C zr_179_6 (Or.inr rfl) zm_140 rfl rfl ⟨Nat.le_of_ble_eq_true rfl, Nat.le_of_ble_eq_true rfl, Nat.le_of_ble_eq_true rfl, rfl, by decide⟩ (by omega) (P := (fun v m' => zW E (d) 179 9 [(2, 69), (0, a0), (0, a1), (9, 0)] (if v.1 = 9 then [] else v :: []) m' Q)) ?_ (fun _ _ h => h)
  generalize hQ1 : (fun v m' => zW E (d) 179 9 [(2, 69), (0, a0), (0, a1), (9, 0)] (if v.1 = 9 then [] else v :: []) m' Q) = Q1
  show zW E (d - 1) 140 0 [(1, a0), (9, 0), (1, 0), (9, 0), (1, 159), (9, 0)] [] m0 Q1
  refine zw_5 zr_140_0 rfl ?_
  refine zw_5 zr_140_1 rfl ?_
  refine zw_39_0 zr_140_2 zr_140_3 ?_ ?_
  · intro h1
    refine zw_push zr_140_17 ?_
    refine zw_R zr_140_18 (by decide) zm_140 (v := (0, 0)) (zRetB (by omega)) ?_
    rw [← hQ1]
    show zW E (d) 179 9 [(2, 69), (0, a0), (0, a1), (9, 0)] [(0, 0)] m0 Q
    refine zw_40_1 zr_179_9 ?_ ?_
    · intro h2
      refine zw_push zr_179_26 ?_
      refine zw_R zr_179_28 (by decide) zm_179 (v := (0, (-100000))) rfl ?_
      rw [← hQ]; exact ⟨_, rfl, by omega, by omega, hI0, hF0, by omega, by rw [hG70]; first | exact (if_neg (by omega)).symm | exact (if_pos (by omega)).symm⟩
    · intro h5; omega
  · intro h6
    refine zw_5 zr_140_6 rfl ?_
    refine zw_6 zr_140_7 rfl ?_
    refine zw_39_2 zr_140_9 zr_140_10 ?_ ?_
    · intro h7
      refine zw_push zr_140_17 ?_
      refine zw_R zr_140_18 (by decide) zm_140 (v := (0, 0)) (zRetB (by omega)) ?_
      rw [← hQ1]
      show zW E (d) 179 9 [(2, 69), (0, a0), (0, a1), (9, 0)] [(0, 0)] m0 Q
      refine zw_40_1 zr_179_9 ?_ ?_
      · intro h8
        refine zw_push zr_179_26 ?_
        refine zw_R zr_179_28 (by decide) zm_179 (v := (0, (-100000))) rfl ?_
        rw [← hQ]; exact ⟨_, rfl, by omega, by omega, hI0, hF0, by omega, by rw [hG70]; first | exact (if_neg (by omega)).symm | exact (if_pos (by omega)).symm⟩
      · intro h11; omega
    · intro h12
      refine zw_push zr_140_13 ?_
      refine zw_42 zr_140_14 ?_
      refine zw_R zr_140_18 (by decide) zm_140 (v := (0, 1)) (zRetB (by omega)) ?_
      rw [← hQ1]
      show zW E (d) 179 9 [(2, 69), (0, a0), (0, a1), (9, 0)] [(0, 1)] m0 Q
      refine zw_40_1 zr_179_9 ?_ ?_
      · intro h13; omega
      · intro h14
        refine zw_3 zr_179_12 rfl ?_
        refine zw_36 zr_179_13 ?_
        refine zw_push zr_179_14 ?_
        refine zw_push zr_179_17 ?_
        refine zw_C zr_179_20 (Or.inr rfl) zm_140 rfl rfl ⟨Nat.le_of_ble_eq_true rfl, Nat.le_of_ble_eq_true rfl, Nat.le_of_ble_eq_true rfl, rfl, by decide⟩ (by omega) (P := (fun v m' => zW E (d) 179 23 [(2, 69), (0, a0), (0, a1), (9, 0)] (if v.1 = 9 then [] else v :: []) m' Q)) ?_ (fun _ _ h => h)
        generalize hQ1 : (fun v m' => zW E (d) 179 23 [(2, 69), (0, a0), (0, a1), (9, 0)] (if v.1 = 9 then [] else v :: []) m' Q) = Q1
        show zW E (d - 1) 140 0 [(1, a1), (9, 0), (1, (-500)), (9, 0), (1, 500), (9, 0)] [] m0 Q1
        refine zw_5 zr_140_0 rfl ?_
        refine zw_5 zr_140_1 rfl ?_
        refine zw_39_0 zr_140_2 zr_140_3 ?_ ?_
        · intro h15
          refine zw_push zr_140_17 ?_
          refine zw_R zr_140_18 (by decide) zm_140 (v := (0, 0)) (zRetB (by omega)) ?_
          rw [← hQ1]
          show zW E (d) 179 23 [(2, 69), (0, a0), (0, a1), (9, 0)] [(0, 0)] m0 Q
          refine zw_40_4 zr_179_23 ?_ ?_
          · intro h16; omega
          · intro h17
            refine zw_push zr_179_26 ?_
            refine zw_R zr_179_28 (by decide) zm_179 (v := (0, (-100000))) rfl ?_
            rw [← hQ]; exact ⟨_, rfl, by omega, by omega, hI0, hF0, by omega, by rw [hG70]; first | exact (if_neg (by omega)).symm | exact (if_pos (by omega)).symm⟩
        · intro h20
          refine zw_5 zr_140_6 rfl ?_
          refine zw_6 zr_140_7 rfl ?_
          refine zw_39_2 zr_140_9 zr_140_10 ?_ ?_
          · intro h21
            refine zw_push zr_140_17 ?_
            refine zw_R zr_140_18 (by decide) zm_140 (v := (0, 0)) (zRetB (by omega)) ?_
            rw [← hQ1]
            show zW E (d) 179 23 [(2, 69), (0, a0), (0, a1), (9, 0)] [(0, 0)] m0 Q
            refine zw_40_4 zr_179_23 ?_ ?_
            · intro h22; omega
            · intro h23
              refine zw_push zr_179_26 ?_
              refine zw_R zr_179_28 (by decide) zm_179 (v := (0, (-100000))) rfl ?_
              rw [← hQ]; exact ⟨_, rfl, by omega, by omega, hI0, hF0, by omega, by rw [hG70]; first | exact (if_neg (by omega)).symm | exact (if_pos (by omega)).symm⟩
          · intro h26
            refine zw_push zr_140_13 ?_
            refine zw_42 zr_140_14 ?_
            refine zw_R zr_140_18 (by decide) zm_140 (v := (0, 1)) (zRetB (by omega)) ?_
            rw [← hQ1]
            show zW E (d) 179 23 [(2, 69), (0, a0), (0, a1), (9, 0)] [(0, 1)] m0 Q
            refine zw_40_4 zr_179_23 ?_ ?_
            · intro h27
              refine zw_7 zr_179_29 rfl ?_
              refine zw_46r (s := 70) zr_179_30 rfl rfl rfl rfl ?_
              refine zw_push zr_179_33 ?_
              refine zw_3 zr_179_36 rfl ?_
              refine zw_16 zr_179_37 (by omega) ?_
              refine zw_48 (c := 70) (len := 826) zr_179_38 rfl rfl (by omega) (by omega) ?_
              intro x28 ex28
              have bx28 := ib_70_shape hI0 (k := ((658 + a0)).toNat) (by omega)
              rw [← ex28] at bx28
              have qx28 : x28 = F70 ((658 + a0)).toNat := by rw [← hG70]; exact ex28
              clear ex28
              refine zw_9 (L' := [(2, 69), (0, a0), (0, a1), (0, x28)]) zr_179_39 (Nat.le_of_ble_eq_true rfl) rfl ?_
              refine zw_7 zr_179_40 rfl ?_
              refine zw_46r (s := 70) zr_179_41 rfl rfl rfl rfl ?_
              refine zw_push zr_179_44 ?_
              refine zw_3 zr_179_47 rfl ?_
              refine zw_16 zr_179_48 (by omega) ?_
              refine zw_3 zr_179_49 rfl ?_
              refine zw_49 (c := 70) (len := 826) zr_179_50 rfl rfl (by omega) (by omega) ?_
              intro m29 em29
              have hIm29 : zInv m29 := by rw [em29]; exact iu_70_shape hI0 (by omega) (by omega)
              have hFm29 : zFr W_179 m0 m29 := by rw [em29]; exact hF0.any rfl
              have fm29_70 : m29 70 = zPt F70 (((658 + a0)).toNat) a1 := by rw [em29]; exact (zUp_ff (m := m0)).trans (congrArg (fun q => zPt q (((658 + a0)).toNat) a1) hG70)
              clear em29
              refine zw_3 zr_179_51 rfl ?_
              refine zw_R zr_179_52 (by decide) zm_179 (v := (0, x28)) rfl ?_
              rw [← hQ]; exact ⟨_, rfl, by omega, by omega, hIm29, hFm29, by omega, by rw [fm29_70]; first | exact (if_neg (by omega)).symm | exact (if_pos (by omega)).symm⟩
            · intro h32; omega

abbrev W_116 : List (Nat × Nat) := [(1, 4), (1, 5)]
set_option maxHeartbeats 8000000 in
theorem th_116 {E : zE} {d : Nat} {m0 : zM} {a0 : Int} {a1 : Int} {g0 : Int} {g1 : Int} (hd : 2 ≤ d) (hI0 : zInv m0) (hg0 : m0 1 4 = g0) (hg1 : m0 1 5 = g1) (ha0 : (-2147483648) ≤ a0 ∧ a0 ≤ 2147483647) (ha1 : (-2147483648) ≤ a1 ∧ a1 ≤ 2147483647) : zC E d 116 [(2, 0), (0, a0), (0, a1)] m0 (fun v m' => ∃ r : Int, v = (0, r) ∧ (-2) ≤ r ∧ r ≤ 1 ∧ zInv m' ∧ zFr W_116 m0 m' ∧ ((r = 1 ∧ 1 ≤ a0 ∧ a0 ≤ 1000 ∧ 0 ≤ a1 ∧ a1 ≤ 500) ∨ (r = -2 ∧ (a0 < 1 ∨ 1000 < a0 ∨ a1 < 0 ∨ 500 < a1))) ∧ ((r = 1 ∧ m' 1 4 = a0 ∧ m' 1 5 = a1) ∨ (r = -2 ∧ m' 1 4 = g0 ∧ m' 1 5 = g1))) := by
  have hF0 : zFr W_116 m0 m0 := zFr.rfl
  have bg0 := ib_1_4 hI0
  rw [hg0] at bg0
  have bg1 := ib_1_5 hI0
  rw [hg1] at bg1
  generalize hQ : (fun (v : zV) (m' : zM) => ∃ r : Int, v = (0, r) ∧ (-2) ≤ r ∧ r ≤ 1 ∧ zInv m' ∧ zFr W_116 m0 m' ∧ ((r = 1 ∧ 1 ≤ a0 ∧ a0 ≤ 1000 ∧ 0 ≤ a1 ∧ a1 ≤ 500) ∨ (r = -2 ∧ (a0 < 1 ∨ 1000 < a0 ∨ a1 < 0 ∨ 500 < a1))) ∧ ((r = 1 ∧ m' 1 4 = a0 ∧ m' 1 5 = a1) ∨ (r = -2 ∧ m' 1 4 = g0 ∧ m' 1 5 = g1))) = Q
  show zW E d 116 0 [(2, 0), (0, a0), (0, a1)] [] m0 Q
  refine zw_3 zr_116_0 rfl ?_
  refine zw_push zr_116_1 ?_
  refine zw_push zr_116_2 ?_
  refine zw_C zr_116_5 (Or.inr rfl) zm_100 rfl rfl ⟨Nat.le_of_ble_eq_true rfl, Nat.le_of_ble_eq_true rfl, Nat.le_of_ble_eq_true rfl, rfl, by decide⟩ (by omega) (P := (fun v m' => zW E (d) 116 8 [(2, 0), (0, a0), (0, a1)] (if v.1 = 9 then [] else v :: []) m' Q)) ?_ (fun _ _ h => h)
  generalize hQ1 : (fun v m' => zW E (d) 116 8 [(2, 0), (0, a0), (0, a1)] (if v.1 = 9 then [] else v :: []) m' Q) = Q1
  show zW E (d - 1) 100 0 [(0, a0), (0, 1), (0, 1000)] [] m0 Q1
  refine zw_3 zr_100_0 rfl ?_
  refine zw_3 zr_100_1 rfl ?_
  refine zw_41_0 zr_100_2 ?_ ?_
  · intro h1
    refine zw_push zr_100_14 ?_
    refine zw_R zr_100_15 (by decide) zm_100 (v := (0, 0)) (zRetB (by omega)) ?_
    rw [← hQ1]
    show zW E (d) 116 8 [(2, 0), (0, a0), (0, a1)] [(0, 0)] m0 Q
    refine zw_40_1 zr_116_8 ?_ ?_
    · intro h2
      refine zw_push zr_116_22 ?_
      refine zw_R zr_116_24 (by decide) zm_116 (v := (0, (-2))) rfl ?_
      rw [← hQ]; exact ⟨_, rfl, by omega, by omega, hI0, hF0, by omega, by omega⟩
    · intro h5; omega
  · intro h6
    refine zw_3 zr_100_5 rfl ?_
    refine zw_3 zr_100_6 rfl ?_
    refine zw_41_2 zr_100_7 ?_ ?_
    · intro h7
      refine zw_push zr_100_14 ?_
      refine zw_R zr_100_15 (by decide) zm_100 (v := (0, 0)) (zRetB (by omega)) ?_
      rw [← hQ1]
      show zW E (d) 116 8 [(2, 0), (0, a0), (0, a1)] [(0, 0)] m0 Q
      refine zw_40_1 zr_116_8 ?_ ?_
      · intro h8
        refine zw_push zr_116_22 ?_
        refine zw_R zr_116_24 (by decide) zm_116 (v := (0, (-2))) rfl ?_
        rw [← hQ]; exact ⟨_, rfl, by omega, by omega, hI0, hF0, by omega, by omega⟩
      · intro h11; omega
    · intro h12
      refine zw_push zr_100_10 ?_
      refine zw_42 zr_100_11 ?_
      refine zw_R zr_100_15 (by decide) zm_100 (v := (0, 1)) (zRetB (by omega)) ?_
      rw [← hQ1]
      show zW E (d) 116 8 [(2, 0), (0, a0), (0, a1)] [(0, 1)] m0 Q
      refine zw_40_1 zr_116_8 ?_ ?_
      · intro h13; omega
      · intro h14
        refine zw_3 zr_116_11 rfl ?_
        refine zw_push zr_116_12 ?_
        refine zw_push zr_116_13 ?_
        refine zw_C zr_116_16 (Or.inr rfl) zm_100 rfl rfl ⟨Nat.le_of_ble_eq_true rfl, Nat.le_of_ble_eq_true rfl, Nat.le_of_ble_eq_true rfl, rfl, by decide⟩ (by omega) (P := (fun v m' => zW E (d) 116 19 [(2, 0), (0, a0), (0, a1)] (if v.1 = 9 then [] else v :: []) m' Q)) ?_ (fun _ _ h => h)
        generalize hQ1 : (fun v m' => zW E (d) 116 19 [(2, 0), (0, a0), (0, a1)] (if v.1 = 9 then [] else v :: []) m' Q) = Q1
        show zW E (d - 1) 100 0 [(0, a1), (0, 0), (0, 500)] [] m0 Q1
        refine zw_3 zr_100_0 rfl ?_
        refine zw_3 zr_100_1 rfl ?_
        refine zw_41_0 zr_100_2 ?_ ?_
        · intro h15
          refine zw_push zr_100_14 ?_
          refine zw_R zr_100_15 (by decide) zm_100 (v := (0, 0)) (zRetB (by omega)) ?_
          rw [← hQ1]
          show zW E (d) 116 19 [(2, 0), (0, a0), (0, a1)] [(0, 0)] m0 Q
          refine zw_40_4 zr_116_19 ?_ ?_
          · intro h16; omega
          · intro h17
            refine zw_push zr_116_22 ?_
            refine zw_R zr_116_24 (by decide) zm_116 (v := (0, (-2))) rfl ?_
            rw [← hQ]; exact ⟨_, rfl, by omega, by omega, hI0, hF0, by omega, by omega⟩
        · intro h20
          refine zw_3 zr_100_5 rfl ?_
          refine zw_3 zr_100_6 rfl ?_
          refine zw_41_2 zr_100_7 ?_ ?_
          · intro h21
            refine zw_push zr_100_14 ?_
            refine zw_R zr_100_15 (by decide) zm_100 (v := (0, 0)) (zRetB (by omega)) ?_
            rw [← hQ1]
            show zW E (d) 116 19 [(2, 0), (0, a0), (0, a1)] [(0, 0)] m0 Q
            refine zw_40_4 zr_116_19 ?_ ?_
            · intro h22; omega
            · intro h23
              refine zw_push zr_116_22 ?_
              refine zw_R zr_116_24 (by decide) zm_116 (v := (0, (-2))) rfl ?_
              rw [← hQ]; exact ⟨_, rfl, by omega, by omega, hI0, hF0, by omega, by omega⟩
          · intro h26
            refine zw_push zr_100_10 ?_
            refine zw_42 zr_100_11 ?_
            refine zw_R zr_100_15 (by decide) zm_100 (v := (0, 1)) (zRetB (by omega)) ?_
            rw [← hQ1]
            show zW E (d) 116 19 [(2, 0), (0, a0), (0, a1)] [(0, 1)] m0 Q
            refine zw_40_4 zr_116_19 ?_ ?_
            · intro h27
              refine zw_7 zr_116_25 rfl ?_
              refine zw_46r (s := 1) zr_116_26 rfl rfl rfl rfl ?_
              refine zw_3 zr_116_29 rfl ?_
              refine zw_47 (c := 1) zr_116_30 rfl ⟨rfl, by decide, rfl⟩ ?_
              intro m28 em28
              have hIm28 : zInv m28 := by rw [em28]; exact hI0.bd (r := 1) (k := 4) (lo := 1) (hi := 1000) rfl (by omega) (by decide) (by decide) (by decide)
              have hFm28 : zFr W_116 m0 m28 := by rw [em28]; exact hF0.up rfl
              have km28_1_5 : m28 1 5 = g1 := by rw [em28, zUp_ne (by omega)]; exact hg1
              have km28_1_4 : m28 1 4 = a0 := by rw [em28]; exact zUp_eq _ _ _ _
              clear em28
              refine zw_7 zr_116_33 rfl ?_
              refine zw_46r (s := 1) zr_116_34 rfl rfl rfl rfl ?_
              refine zw_3 zr_116_37 rfl ?_
              refine zw_47 (c := 1) zr_116_38 rfl ⟨rfl, by decide, rfl⟩ ?_
              intro m29 em29
              have hIm29 : zInv m29 := by rw [em29]; exact hIm28.bd (r := 1) (k := 5) (lo := 0) (hi := 500) rfl (by omega) (by decide) (by decide) (by decide)
              have hFm29 : zFr W_116 m0 m29 := by rw [em29]; exact hFm28.up rfl
              have km29_1_4 : m29 1 4 = a0 := by rw [em29, zUp_ne (by omega)]; exact km28_1_4
              have km29_1_5 : m29 1 5 = a1 := by rw [em29]; exact zUp_eq _ _ _ _
              clear em29
              refine zw_push zr_116_41 ?_
              refine zw_R zr_116_42 (by decide) zm_116 (v := (0, 1)) rfl ?_
              rw [← hQ]; exact ⟨_, rfl, by omega, by omega, hIm29, hFm29, by omega, by omega⟩
            · intro h32; omega

abbrev W_180 : List (Nat × Nat) := [(70, 1000)]
set_option maxHeartbeats 8000000 in
theorem th_180 {E : zE} {d : Nat} {m0 : zM} {a0 : Int} {a1 : Int} {F70 : Nat → Int} (hd : 2 ≤ d) (hI0 : zInv m0) (hG70 : m0 70 = F70) (ha0 : (-2147483648) ≤ a0 ∧ a0 ≤ 2147483647) (ha1 : (-2147483648) ≤ a1 ∧ a1 ≤ 2147483647) : zC E d 180 [(2, 69), (0, a0), (0, a1)] m0 (fun v m' => ∃ r : Int, v = (0, r) ∧ (-2) ≤ r ∧ r ≤ 1 ∧ zInv m' ∧ zFr W_180 m0 m' ∧ ((r = 1 ∧ 1 ≤ a0 ∧ a0 ≤ 1000 ∧ 0 ≤ a1 ∧ a1 ≤ 500) ∨ (r = -2 ∧ (a0 < 1 ∨ 1000 < a0 ∨ a1 < 0 ∨ 500 < a1))) ∧ (m' 70 = if 0 ≤ r then zPt (zPt F70 824 a0) 825 a1 else F70)) := by
  have hF0 : zFr W_180 m0 m0 := zFr.rfl
  generalize hQ : (fun (v : zV) (m' : zM) => ∃ r : Int, v = (0, r) ∧ (-2) ≤ r ∧ r ≤ 1 ∧ zInv m' ∧ zFr W_180 m0 m' ∧ ((r = 1 ∧ 1 ≤ a0 ∧ a0 ≤ 1000 ∧ 0 ≤ a1 ∧ a1 ≤ 500) ∨ (r = -2 ∧ (a0 < 1 ∨ 1000 < a0 ∨ a1 < 0 ∨ 500 < a1))) ∧ (m' 70 = if 0 ≤ r then zPt (zPt F70 824 a0) 825 a1 else F70)) = Q
  show zW E d 180 0 [(2, 69), (0, a0), (0, a1)] [] m0 Q
  refine zw_3 zr_180_0 rfl ?_
  refine zw_36 zr_180_1 ?_
  refine zw_push zr_180_2 ?_
  refine zw_push zr_180_3 ?_
  refine zw_C zr_180_6 (Or.inr rfl) zm_140 rfl rfl ⟨Nat.le_of_ble_eq_true rfl, Nat.le_of_ble_eq_true rfl, Nat.le_of_ble_eq_true rfl, rfl, by decide⟩ (by omega) (P := (fun v m' => zW E (d) 180 9 [(2, 69), (0, a0), (0, a1)] (if v.1 = 9 then [] else v :: []) m' Q)) ?_ (fun _ _ h => h)
  generalize hQ1 : (fun v m' => zW E (d) 180 9 [(2, 69), (0, a0), (0, a1)] (if v.1 = 9 then [] else v :: []) m' Q) = Q1
  show zW E (d - 1) 140 0 [(1, a0), (9, 0), (1, 1), (9, 0), (1, 1000), (9, 0)] [] m0 Q1
  refine zw_5 zr_140_0 rfl ?_
  refine zw_5 zr_140_1 rfl ?_
  refine zw_39_0 zr_140_2 zr_140_3 ?_ ?_
  · intro h1
    refine zw_push zr_140_17 ?_
    refine zw_R zr_140_18 (by decide) zm_140 (v := (0, 0)) (zRetB (by omega)) ?_
    rw [← hQ1]
    show zW E (d) 180 9 [(2, 69), (0, a0), (0, a1)] [(0, 0)] m0 Q
    refine zw_40_1 zr_180_9 ?_ ?_
    · intro h2
      refine zw_push zr_180_24 ?_
      refine zw_R zr_180_26 (by decide) zm_180 (v := (0, (-2))) rfl ?_
      rw [← hQ]; exact ⟨_, rfl, by omega, by omega, hI0, hF0, by omega, by rw [hG70]; first | exact (if_neg (by omega)).symm | exact (if_pos (by omega)).symm⟩
    · intro h5; omega
  · intro h6
    refine zw_5 zr_140_6 rfl ?_
    refine zw_6 zr_140_7 rfl ?_
    refine zw_39_2 zr_140_9 zr_140_10 ?_ ?_
    · intro h7
      refine zw_push zr_140_17 ?_
      refine zw_R zr_140_18 (by decide) zm_140 (v := (0, 0)) (zRetB (by omega)) ?_
      rw [← hQ1]
      show zW E (d) 180 9 [(2, 69), (0, a0), (0, a1)] [(0, 0)] m0 Q
      refine zw_40_1 zr_180_9 ?_ ?_
      · intro h8
        refine zw_push zr_180_24 ?_
        refine zw_R zr_180_26 (by decide) zm_180 (v := (0, (-2))) rfl ?_
        rw [← hQ]; exact ⟨_, rfl, by omega, by omega, hI0, hF0, by omega, by rw [hG70]; first | exact (if_neg (by omega)).symm | exact (if_pos (by omega)).symm⟩
      · intro h11; omega
    · intro h12
      refine zw_push zr_140_13 ?_
      refine zw_42 zr_140_14 ?_
      refine zw_R zr_140_18 (by decide) zm_140 (v := (0, 1)) (zRetB (by omega)) ?_
      rw [← hQ1]
      show zW E (d) 180 9 [(2, 69), (0, a0), (0, a1)] [(0, 1)] m0 Q
      refine zw_40_1 zr_180_9 ?_ ?_
      · intro h13; omega
      · intro h14
        refine zw_3 zr_180_12 rfl ?_
        refine zw_36 zr_180_13 ?_
        refine zw_push zr_180_14 ?_
        refine zw_push zr_180_15 ?_
        refine zw_C zr_180_18 (Or.inr rfl) zm_140 rfl rfl ⟨Nat.le_of_ble_eq_true rfl, Nat.le_of_ble_eq_true rfl, Nat.le_of_ble_eq_true rfl, rfl, by decide⟩ (by omega) (P := (fun v m' => zW E (d) 180 21 [(2, 69), (0, a0), (0, a1)] (if v.1 = 9 then [] else v :: []) m' Q)) ?_ (fun _ _ h => h)
        generalize hQ1 : (fun v m' => zW E (d) 180 21 [(2, 69), (0, a0), (0, a1)] (if v.1 = 9 then [] else v :: []) m' Q) = Q1
        show zW E (d - 1) 140 0 [(1, a1), (9, 0), (1, 0), (9, 0), (1, 500), (9, 0)] [] m0 Q1
        refine zw_5 zr_140_0 rfl ?_
        refine zw_5 zr_140_1 rfl ?_
        refine zw_39_0 zr_140_2 zr_140_3 ?_ ?_
        · intro h15
          refine zw_push zr_140_17 ?_
          refine zw_R zr_140_18 (by decide) zm_140 (v := (0, 0)) (zRetB (by omega)) ?_
          rw [← hQ1]
          show zW E (d) 180 21 [(2, 69), (0, a0), (0, a1)] [(0, 0)] m0 Q
          refine zw_40_4 zr_180_21 ?_ ?_
          · intro h16; omega
          · intro h17
            refine zw_push zr_180_24 ?_
            refine zw_R zr_180_26 (by decide) zm_180 (v := (0, (-2))) rfl ?_
            rw [← hQ]; exact ⟨_, rfl, by omega, by omega, hI0, hF0, by omega, by rw [hG70]; first | exact (if_neg (by omega)).symm | exact (if_pos (by omega)).symm⟩
        · intro h20
          refine zw_5 zr_140_6 rfl ?_
          refine zw_6 zr_140_7 rfl ?_
          refine zw_39_2 zr_140_9 zr_140_10 ?_ ?_
          · intro h21
            refine zw_push zr_140_17 ?_
            refine zw_R zr_140_18 (by decide) zm_140 (v := (0, 0)) (zRetB (by omega)) ?_
            rw [← hQ1]
            show zW E (d) 180 21 [(2, 69), (0, a0), (0, a1)] [(0, 0)] m0 Q
            refine zw_40_4 zr_180_21 ?_ ?_
            · intro h22; omega
            · intro h23
              refine zw_push zr_180_24 ?_
              refine zw_R zr_180_26 (by decide) zm_180 (v := (0, (-2))) rfl ?_
              rw [← hQ]; exact ⟨_, rfl, by omega, by omega, hI0, hF0, by omega, by rw [hG70]; first | exact (if_neg (by omega)).symm | exact (if_pos (by omega)).symm⟩
          · intro h26
            refine zw_push zr_140_13 ?_
            refine zw_42 zr_140_14 ?_
            refine zw_R zr_140_18 (by decide) zm_140 (v := (0, 1)) (zRetB (by omega)) ?_
            rw [← hQ1]
            show zW E (d) 180 21 [(2, 69), (0, a0), (0, a1)] [(0, 1)] m0 Q
            refine zw_40_4 zr_180_21 ?_ ?_
            · intro h27
              refine zw_7 zr_180_27 rfl ?_
              refine zw_46r (s := 70) zr_180_28 rfl rfl rfl rfl ?_
              refine zw_push zr_180_31 ?_
              refine zw_3 zr_180_34 rfl ?_
              refine zw_49 (c := 70) (len := 826) zr_180_35 rfl rfl (by omega) (by omega) ?_
              intro m28 em28
              have hIm28 : zInv m28 := by rw [em28]; exact iu_70_wide hI0 (by omega) (by omega)
              have hFm28 : zFr W_180 m0 m28 := by rw [em28]; exact hF0.any rfl
              have km28_70_824 : m28 70 824 = a0 := by rw [em28, show (824 : Int).toNat = 824 by omega]; exact zUp_eq _ _ _ _
              have fm28_70 : m28 70 = zPt F70 824 a0 := by rw [em28]; exact (zUp_ff (m := m0)).trans (congrArg (fun q => zPt q 824 a0) hG70)
              clear em28
              refine zw_7 zr_180_36 rfl ?_
              refine zw_46r (s := 70) zr_180_37 rfl rfl rfl rfl ?_
              refine zw_push zr_180_40 ?_
              refine zw_3 zr_180_43 rfl ?_
              refine zw_49 (c := 70) (len := 826) zr_180_44 rfl rfl (by omega) (by omega) ?_
              intro m29 em29
              have hIm29 : zInv m29 := by rw [em29]; exact iu_70_even hIm28 (by omega) (by omega)
              have hFm29 : zFr W_180 m0 m29 := by rw [em29]; exact hFm28.any rfl
              have km29_70_824 : m29 70 824 = a0 := by rw [em29, zUp_ne (by omega)]; exact km28_70_824
              have km29_70_825 : m29 70 825 = a1 := by rw [em29, show (825 : Int).toNat = 825 by omega]; exact zUp_eq _ _ _ _
              have fm29_70 : m29 70 = zPt (zPt F70 824 a0) 825 a1 := by rw [em29]; exact (zUp_ff (m := m28)).trans (congrArg (fun q => zPt q 825 a1) fm28_70)
              clear em29
              refine zw_push zr_180_45 ?_
              refine zw_R zr_180_46 (by decide) zm_180 (v := (0, 1)) rfl ?_
              rw [← hQ]; exact ⟨_, rfl, by omega, by omega, hIm29, hFm29, by omega, by rw [fm29_70]; first | exact (if_neg (by omega)).symm | exact (if_pos (by omega)).symm⟩
            · intro h32; omega

set_option maxHeartbeats 8000000 in
theorem th_58 {E : zE} {d : Nat} {m0 : zM} {a0 : Int} {a1 : Int} {F2 : Nat → Int} {F12 : Nat → Int} (hd : 1 ≤ d) (hI0 : zInv m0) (hG2 : m0 2 = F2) (hG12 : m0 12 = F12) (ha0 : 0 ≤ a0 ∧ a0 ≤ 9) (ha1 : 0 ≤ a1 ∧ a1 ≤ 99) : zC E d 58 [(2, 1), (0, a0), (0, a1)] m0 (fun v m' => ∃ r : Int, v = (0, r) ∧ (-500) ≤ r ∧ r ≤ 500 ∧ m0 = m' ∧ (r = shv F2 F12 a0 a1)) := by
  generalize hQ : (fun (v : zV) (m' : zM) => ∃ r : Int, v = (0, r) ∧ (-500) ≤ r ∧ r ≤ 500 ∧ m0 = m' ∧ (r = shv F2 F12 a0 a1)) = Q
  show zW E d 58 0 [(2, 1), (0, a0), (0, a1)] [] m0 Q
  refine zw_7 zr_58_0 rfl ?_
  refine zw_46r (s := 12) zr_58_1 rfl rfl rfl rfl ?_
  refine zw_push zr_58_4 ?_
  refine zw_push zr_58_5 ?_
  refine zw_3 zr_58_8 rfl ?_
  refine zw_7 zr_58_9 rfl ?_
  refine zw_46r (s := 2) zr_58_10 rfl rfl rfl rfl ?_
  refine zw_3 zr_58_13 rfl ?_
  refine zw_48 (c := 2) (len := 10) zr_58_14 rfl rfl (by omega) (by omega) ?_
  intro x1 ex1
  have bx1 := ib_2 hI0 (k := (a0).toNat) (by omega)
  rw [← ex1] at bx1
  have qx1 : x1 = F2 (a0).toNat := by rw [← hG2]; exact ex1
  clear ex1
  have hb := qx1
  refine zw_17 zr_58_15 (by omega) ?_
  refine zw_121 zr_58_16 (Nat.le_of_ble_eq_true rfl) (by omega) (by omega) (by omega) ?_
  intro x3 hx3a hx3b hx3c
  refine zw_120 zr_58_19 (Nat.le_of_ble_eq_true rfl) (by omega) (by omega) (by omega) ?_
  intro x4 hx4a hx4b hx4c
  refine zw_48 (c := 12) (len := 160) zr_58_22 rfl rfl (by omega) (by omega) ?_
  intro x5 ex5
  have bx5 := ib_12 hI0 (k := (x4).toNat) (by omega)
  rw [← ex5] at bx5
  have qx5 : x5 = F12 (x4).toNat := by rw [← hG12]; exact ex5
  clear ex5
  refine zw_R zr_58_23 (by decide) zm_58 (v := (0, x5)) rfl ?_
  rw [← hQ]; exact ⟨_, rfl, by omega, by omega, rfl, shv_e hb (by omega) qx5⟩

abbrev W_78 : List (Nat × Nat) := [(56, 1000), (57, 1000)]
set_option maxHeartbeats 8000000 in
theorem th_78 {E : zE} {d : Nat} {m0 : zM} {g0 : Int} {g1 : Int} {g2 : Int} {F2 : Nat → Int} {F5 : Nat → Int} {F6 : Nat → Int} {F7 : Nat → Int} {F8 : Nat → Int} {F12 : Nat → Int} {F56 : Nat → Int} {F57 : Nat → Int} (hd : 2 ≤ d) (hI0 : zInv m0) (hg0 : m0 1 1 = g0) (hg1 : m0 1 4 = g1) (hg2 : m0 1 5 = g2) (hG2 : m0 2 = F2) (hG5 : m0 5 = F5) (hG6 : m0 6 = F6) (hG7 : m0 7 = F7) (hG8 : m0 8 = F8) (hG12 : m0 12 = F12) (hG56 : m0 56 = F56) (hG57 : m0 57 = F57) : zC E d 78 [(2, 55)] m0 (fun v m' => v = (9, 0) ∧ zInv m' ∧ zFr W_78 m0 m' ∧ (zBn (m' 56) (m' 57) F5 F6 F7 F8 F2 F12 g1 g2 g0)) := by
  have hF0 : zFr W_78 m0 m0 := zFr.rfl
  have bg0 := ib_1_1 hI0
  rw [hg0] at bg0
  have bg1 := ib_1_4 hI0
  rw [hg1] at bg1
  have bg2 := ib_1_5 hI0
  rw [hg2] at bg2
  generalize hQ : (fun (v : zV) (m' : zM) => v = (9, 0) ∧ zInv m' ∧ zFr W_78 m0 m' ∧ (zBn (m' 56) (m' 57) F5 F6 F7 F8 F2 F12 g1 g2 g0)) = Q
  show zW E d 78 0 [(2, 55), (9, 0), (9, 0), (9, 0), (9, 0)] [] m0 Q
  refine zw_push zr_78_0 ?_
  refine zw_9 (L' := [(2, 55), (0, 0), (9, 0), (9, 0), (9, 0)]) zr_78_1 (Nat.le_of_ble_eq_true rfl) rfl ?_
  have lp2_5 : ∀ (nlp2_5 : Nat) (i1 : Int) (f3 : Nat → Int) (f4 : Nat → Int) (m2 : zM), zInv m2 → zFr W_78 m0 m2 → m2 1 1 = g0 → m2 1 4 = g1 → m2 1 5 = g2 → m2 2 = F2 → m2 5 = F5 → m2 6 = F6 → m2 7 = F7 → m2 8 = F8 → m2 12 = F12 → m2 56 = f3 → m2 57 = f4 → 0 ≤ i1 → i1 ≤ 60 → (zBn f3 f4 F5 F6 F7 F8 F2 F12 g1 g2 i1) → (i1 ≤ g0) → (60 - i1).toNat < nlp2_5 → zW E (d) 78 2 [(2, 55), (0, i1), (9, 0), (9, 0), (9, 0)] [] m2 Q := by
    intro nlp2_5
    induction nlp2_5 with
    | zero =>
      intros
      exact absurd (by assumption : _ < 0) (Nat.not_lt_zero _)
    | succ nlp2_5 ihlp2_5 =>
      intro i1 f3 f4 m2 hIm2 hFm2 km2_1_1 km2_1_4 km2_1_5 fm2_2 fm2_5 fm2_6 fm2_7 fm2_8 fm2_12 fm2_56 fm2_57 li1 ui1 hv0lp2_5 hv1lp2_5 hmlp2_5
      refine zw_3 zr_78_2 rfl ?_
      refine zw_7 zr_78_3 rfl ?_
      refine zw_46r (s := 1) zr_78_4 rfl rfl rfl rfl ?_
      refine zw_46i zr_78_7 km2_1_1 rfl rfl rfl ?_
      refine zw_41_3 zr_78_10 ?_ ?_
      · intro h7
        refine zw_R zr_78_167 (by decide) zm_78 (v := (9, 0)) rfl ?_
        rw [← hQ]; exact ⟨rfl, hIm2, hFm2, by rw [fm2_56, fm2_57]; have z := hv0lp2_5; rw [show i1 = g0 by omega] at z; exact z⟩
      · intro h9
        refine zw_7 zr_78_13 rfl ?_
        refine zw_46r (s := 1) zr_78_14 rfl rfl rfl rfl ?_
        refine zw_46r (s := 5) zr_78_17 rfl rfl rfl rfl ?_
        refine zw_3 zr_78_20 rfl ?_
        refine zw_48 (c := 5) (len := 60) zr_78_21 rfl rfl (by omega) (by omega) ?_
        intro x10 ex10
        have bx10 := ib_5 hIm2 (k := (i1).toNat) (by omega)
        rw [← ex10] at bx10
        have qx10 : x10 = F5 (i1).toNat := by rw [← fm2_5]; exact ex10
        clear ex10
        refine zw_9 (L' := [(2, 55), (0, i1), (0, x10), (9, 0), (9, 0)]) zr_78_22 (Nat.le_of_ble_eq_true rfl) rfl ?_
        refine zw_7 zr_78_23 rfl ?_
        refine zw_46r (s := 1) zr_78_24 rfl rfl rfl rfl ?_
        refine zw_7 zr_78_27 rfl ?_
        refine zw_46r (s := 1) zr_78_28 rfl rfl rfl rfl ?_
        refine zw_46r (s := 6) zr_78_31 rfl rfl rfl rfl ?_
        refine zw_3 zr_78_34 rfl ?_
        refine zw_48 (c := 6) (len := 60) zr_78_35 rfl rfl (by omega) (by omega) ?_
        intro x11 ex11
        have bx11 := ib_6 hIm2 (k := (i1).toNat) (by omega)
        rw [← ex11] at bx11
        have qx11 : x11 = F6 (i1).toNat := by rw [← fm2_6]; exact ex11
        clear ex11
        have hA := qx11
        refine zw_3 zr_78_36 rfl ?_
        refine zw_C zr_78_37 (Or.inl rfl) zm_58 rfl rfl ⟨Nat.le_of_ble_eq_true rfl, Nat.le_of_ble_eq_true rfl, Nat.le_of_ble_eq_true rfl, rfl, by decide⟩ (by omega) (th_58 (d := d - 1) (by omega) hIm2 (a0 := x11) (a1 := x10)   (F2 := F2) (F12 := F12)  fm2_2 fm2_12 (by omega) (by omega) ) ?_
        rintro _ _ ⟨r13, rfl, hr13a, hr13b, rfl, po0_r13⟩
        show zW E (d) 78 40 [(2, 55), (0, i1), (0, x10), (9, 0), (9, 0)] [(0, r13)] m2 Q
        refine zw_7 zr_78_40 rfl ?_
        refine zw_46r (s := 1) zr_78_41 rfl rfl rfl rfl ?_
        refine zw_7 zr_78_44 rfl ?_
        refine zw_46r (s := 1) zr_78_45 rfl rfl rfl rfl ?_
        refine zw_46r (s := 7) zr_78_48 rfl rfl rfl rfl ?_
        refine zw_3 zr_78_51 rfl ?_
        refine zw_48 (c := 7) (len := 60) zr_78_52 rfl rfl (by omega) (by omega) ?_
        intro x14 ex14
        have bx14 := ib_7 hIm2 (k := (i1).toNat) (by omega)
        rw [← ex14] at bx14
        have qx14 : x14 = F7 (i1).toNat := by rw [← fm2_7]; exact ex14
        clear ex14
        have hB := qx14
        refine zw_3 zr_78_53 rfl ?_
        refine zw_C zr_78_54 (Or.inl rfl) zm_58 rfl rfl ⟨Nat.le_of_ble_eq_true rfl, Nat.le_of_ble_eq_true rfl, Nat.le_of_ble_eq_true rfl, rfl, by decide⟩ (by omega) (th_58 (d := d - 1) (by omega) hIm2 (a0 := x14) (a1 := x10)   (F2 := F2) (F12 := F12)  fm2_2 fm2_12 (by omega) (by omega) ) ?_
        rintro _ _ ⟨r16, rfl, hr16a, hr16b, rfl, po0_r16⟩
        show zW E (d) 78 57 [(2, 55), (0, i1), (0, x10), (9, 0), (9, 0)] [(0, r16), (0, r13)] m2 Q
        refine zw_17 zr_78_57 (by omega) ?_
        refine zw_9 (L' := [(2, 55), (0, i1), (0, x10), (0, (r13 - r16)), (9, 0)]) zr_78_58 (Nat.le_of_ble_eq_true rfl) rfl ?_
        refine zw_7 zr_78_59 rfl ?_
        refine zw_46r (s := 1) zr_78_60 rfl rfl rfl rfl ?_
        refine zw_46r (s := 8) zr_78_63 rfl rfl rfl rfl ?_
        refine zw_3 zr_78_66 rfl ?_
        refine zw_48 (c := 8) (len := 60) zr_78_67 rfl rfl (by omega) (by omega) ?_
        intro x17 ex17
        have bx17 := ib_8 hIm2 (k := (i1).toNat) (by omega)
        rw [← ex17] at bx17
        have qx17 : x17 = F8 (i1).toNat := by rw [← fm2_8]; exact ex17
        clear ex17
        refine zw_10 (L' := [(2, 55), (0, i1), (0, x10), (0, (r13 - r16)), (0, x17)]) zr_78_68 (Nat.le_of_ble_eq_true rfl) rfl ?_
        refine zw_4 zr_78_70 rfl ?_
        refine zw_push zr_78_72 ?_
        refine zw_41_4 zr_78_73 ?_ ?_
        · intro h18
          refine zw_7 zr_78_110 rfl ?_
          refine zw_46r (s := 56) zr_78_111 rfl rfl rfl rfl ?_
          refine zw_3 zr_78_114 rfl ?_
          refine zw_4 zr_78_115 rfl ?_
          refine zw_push zr_78_117 ?_
          refine zw_41_4 zr_78_118 ?_ ?_
          · intro h19
            refine zw_7 zr_78_125 rfl ?_
            refine zw_46r (s := 1) zr_78_126 rfl rfl rfl rfl ?_
            refine zw_46i zr_78_129 km2_1_4 rfl rfl rfl ?_
            refine zw_38 zr_78_132 (by omega) ?_
            refine zw_3 zr_78_133 rfl ?_
            refine zw_17 zr_78_134 (by omega) ?_
            refine zw_49 (c := 56) (len := 60) zr_78_135 rfl rfl (by omega) (by omega) ?_
            intro m20 em20
            have hIm20 : zInv m20 := by rw [em20]; exact iu_56 hIm2 (by omega)
            have hFm20 : zFr W_78 m0 m20 := by rw [em20]; exact hFm2.any rfl
            have km20_1_1 : m20 1 1 = g0 := by rw [em20, zUp_ne (by omega)]; exact km2_1_1
            have km20_1_4 : m20 1 4 = g1 := by rw [em20, zUp_ne (by omega)]; exact km2_1_4
            have km20_1_5 : m20 1 5 = g2 := by rw [em20, zUp_ne (by omega)]; exact km2_1_5
            have fm20_2 : m20 2 = F2 := by rw [em20, zUp_fn (by decide)]; exact fm2_2
            have fm20_5 : m20 5 = F5 := by rw [em20, zUp_fn (by decide)]; exact fm2_5
            have fm20_6 : m20 6 = F6 := by rw [em20, zUp_fn (by decide)]; exact fm2_6
            have fm20_7 : m20 7 = F7 := by rw [em20, zUp_fn (by decide)]; exact fm2_7
            have fm20_8 : m20 8 = F8 := by rw [em20, zUp_fn (by decide)]; exact fm2_8
            have fm20_12 : m20 12 = F12 := by rw [em20, zUp_fn (by decide)]; exact fm2_12
            have fm20_56 : m20 56 = zPt f3 ((i1).toNat) (((-g1) - (r13 - r16))) := by rw [em20]; exact (zUp_ff (m := m2)).trans (congrArg (fun q => zPt q ((i1).toNat) (((-g1) - (r13 - r16)))) fm2_56)
            have fm20_57 : m20 57 = f4 := by rw [em20, zUp_fn (by decide)]; exact fm2_57
            clear em20
            refine zw_7 zr_78_136 rfl ?_
            refine zw_46r (s := 57) zr_78_137 rfl rfl rfl rfl ?_
            refine zw_3 zr_78_140 rfl ?_
            refine zw_4 zr_78_141 rfl ?_
            refine zw_push zr_78_143 ?_
            refine zw_41_4 zr_78_144 ?_ ?_
            · intro h21
              refine zw_push zr_78_157 ?_
              refine zw_3 zr_78_158 rfl ?_
              refine zw_17 zr_78_159 (by omega) ?_
              refine zw_49 (c := 57) (len := 60) zr_78_160 rfl rfl (by omega) (by omega) ?_
              intro m22 em22
              have hIm22 : zInv m22 := by rw [em22]; exact iu_57 hIm20 (by omega)
              have hFm22 : zFr W_78 m0 m22 := by rw [em22]; exact hFm20.any rfl
              have km22_1_1 : m22 1 1 = g0 := by rw [em22, zUp_ne (by omega)]; exact km20_1_1
              have km22_1_4 : m22 1 4 = g1 := by rw [em22, zUp_ne (by omega)]; exact km20_1_4
              have km22_1_5 : m22 1 5 = g2 := by rw [em22, zUp_ne (by omega)]; exact km20_1_5
              have fm22_2 : m22 2 = F2 := by rw [em22, zUp_fn (by decide)]; exact fm20_2
              have fm22_5 : m22 5 = F5 := by rw [em22, zUp_fn (by decide)]; exact fm20_5
              have fm22_6 : m22 6 = F6 := by rw [em22, zUp_fn (by decide)]; exact fm20_6
              have fm22_7 : m22 7 = F7 := by rw [em22, zUp_fn (by decide)]; exact fm20_7
              have fm22_8 : m22 8 = F8 := by rw [em22, zUp_fn (by decide)]; exact fm20_8
              have fm22_12 : m22 12 = F12 := by rw [em22, zUp_fn (by decide)]; exact fm20_12
              have fm22_56 : m22 56 = zPt f3 ((i1).toNat) (((-g1) - (r13 - r16))) := by rw [em22, zUp_fn (by decide)]; exact fm20_56
              have fm22_57 : m22 57 = zPt f4 ((i1).toNat) (((-1) - (r13 - r16))) := by rw [em22]; exact (zUp_ff (m := m20)).trans (congrArg (fun q => zPt q ((i1).toNat) (((-1) - (r13 - r16)))) fm20_57)
              clear em22
              refine zw_15 (c := 1) (L' := [(2, 55), (0, (i1 + 1)), (0, x10), (0, (r13 - r16)), (0, x17)]) zr_78_161 rfl (by decide) (by omega) rfl ?_
              refine zw_42 zr_78_164 ?_
              exact zw_less (L := [(2, 55), (0, (i1 + 1)), (9, 0), (9, 0), (9, 0)]) ⟨Or.inr rfl, Or.inr rfl, Or.inl rfl, Or.inl rfl, Or.inl rfl, trivial⟩ (ihlp2_5 ((i1 + 1)) (zPt f3 ((i1).toNat) (((-g1) - (r13 - r16)))) (zPt f4 ((i1).toNat) (((-1) - (r13 - r16)))) m22 hIm22 hFm22  km22_1_1 km22_1_4 km22_1_5 fm22_2 fm22_5 fm22_6 fm22_7 fm22_8 fm22_12 fm22_56 fm22_57 (by omega) (by omega) (zBn_s hv0lp2_5 (by omega) qx10 hA hB po0_r13 po0_r16 (by omega)) (by omega) (by omega))
            · intro h24; omega
          · intro h25
            refine zw_push zr_78_121 ?_
            refine zw_42 zr_78_122 ?_
            refine zw_3 zr_78_133 rfl ?_
            refine zw_17 zr_78_134 (by omega) ?_
            refine zw_49 (c := 56) (len := 60) zr_78_135 rfl rfl (by omega) (by omega) ?_
            intro m26 em26
            have hIm26 : zInv m26 := by rw [em26]; exact iu_56 hIm2 (by omega)
            have hFm26 : zFr W_78 m0 m26 := by rw [em26]; exact hFm2.any rfl
            have km26_1_1 : m26 1 1 = g0 := by rw [em26, zUp_ne (by omega)]; exact km2_1_1
            have km26_1_4 : m26 1 4 = g1 := by rw [em26, zUp_ne (by omega)]; exact km2_1_4
            have km26_1_5 : m26 1 5 = g2 := by rw [em26, zUp_ne (by omega)]; exact km2_1_5
            have fm26_2 : m26 2 = F2 := by rw [em26, zUp_fn (by decide)]; exact fm2_2
            have fm26_5 : m26 5 = F5 := by rw [em26, zUp_fn (by decide)]; exact fm2_5
            have fm26_6 : m26 6 = F6 := by rw [em26, zUp_fn (by decide)]; exact fm2_6
            have fm26_7 : m26 7 = F7 := by rw [em26, zUp_fn (by decide)]; exact fm2_7
            have fm26_8 : m26 8 = F8 := by rw [em26, zUp_fn (by decide)]; exact fm2_8
            have fm26_12 : m26 12 = F12 := by rw [em26, zUp_fn (by decide)]; exact fm2_12
            have fm26_56 : m26 56 = zPt f3 ((i1).toNat) ((1 - (r13 - r16))) := by rw [em26]; exact (zUp_ff (m := m2)).trans (congrArg (fun q => zPt q ((i1).toNat) ((1 - (r13 - r16)))) fm2_56)
            have fm26_57 : m26 57 = f4 := by rw [em26, zUp_fn (by decide)]; exact fm2_57
            clear em26
            refine zw_7 zr_78_136 rfl ?_
            refine zw_46r (s := 57) zr_78_137 rfl rfl rfl rfl ?_
            refine zw_3 zr_78_140 rfl ?_
            refine zw_4 zr_78_141 rfl ?_
            refine zw_push zr_78_143 ?_
            refine zw_41_4 zr_78_144 ?_ ?_
            · intro h27; omega
            · intro h28
              refine zw_7 zr_78_147 rfl ?_
              refine zw_46r (s := 1) zr_78_148 rfl rfl rfl rfl ?_
              refine zw_46i zr_78_151 km26_1_4 rfl rfl rfl ?_
              refine zw_42 zr_78_154 ?_
              refine zw_3 zr_78_158 rfl ?_
              refine zw_17 zr_78_159 (by omega) ?_
              refine zw_49 (c := 57) (len := 60) zr_78_160 rfl rfl (by omega) (by omega) ?_
              intro m29 em29
              have hIm29 : zInv m29 := by rw [em29]; exact iu_57 hIm26 (by omega)
              have hFm29 : zFr W_78 m0 m29 := by rw [em29]; exact hFm26.any rfl
              have km29_1_1 : m29 1 1 = g0 := by rw [em29, zUp_ne (by omega)]; exact km26_1_1
              have km29_1_4 : m29 1 4 = g1 := by rw [em29, zUp_ne (by omega)]; exact km26_1_4
              have km29_1_5 : m29 1 5 = g2 := by rw [em29, zUp_ne (by omega)]; exact km26_1_5
              have fm29_2 : m29 2 = F2 := by rw [em29, zUp_fn (by decide)]; exact fm26_2
              have fm29_5 : m29 5 = F5 := by rw [em29, zUp_fn (by decide)]; exact fm26_5
              have fm29_6 : m29 6 = F6 := by rw [em29, zUp_fn (by decide)]; exact fm26_6
              have fm29_7 : m29 7 = F7 := by rw [em29, zUp_fn (by decide)]; exact fm26_7
              have fm29_8 : m29 8 = F8 := by rw [em29, zUp_fn (by decide)]; exact fm26_8
              have fm29_12 : m29 12 = F12 := by rw [em29, zUp_fn (by decide)]; exact fm26_12
              have fm29_56 : m29 56 = zPt f3 ((i1).toNat) ((1 - (r13 - r16))) := by rw [em29, zUp_fn (by decide)]; exact fm26_56
              have fm29_57 : m29 57 = zPt f4 ((i1).toNat) ((g1 - (r13 - r16))) := by rw [em29]; exact (zUp_ff (m := m26)).trans (congrArg (fun q => zPt q ((i1).toNat) ((g1 - (r13 - r16)))) fm26_57)
              clear em29
              refine zw_15 (c := 1) (L' := [(2, 55), (0, (i1 + 1)), (0, x10), (0, (r13 - r16)), (0, x17)]) zr_78_161 rfl (by decide) (by omega) rfl ?_
              refine zw_42 zr_78_164 ?_
              exact zw_less (L := [(2, 55), (0, (i1 + 1)), (9, 0), (9, 0), (9, 0)]) ⟨Or.inr rfl, Or.inr rfl, Or.inl rfl, Or.inl rfl, Or.inl rfl, trivial⟩ (ihlp2_5 ((i1 + 1)) (zPt f3 ((i1).toNat) ((1 - (r13 - r16)))) (zPt f4 ((i1).toNat) ((g1 - (r13 - r16)))) m29 hIm29 hFm29  km29_1_1 km29_1_4 km29_1_5 fm29_2 fm29_5 fm29_6 fm29_7 fm29_8 fm29_12 fm29_56 fm29_57 (by omega) (by omega) (zBn_s hv0lp2_5 (by omega) qx10 hA hB po0_r13 po0_r16 (by omega)) (by omega) (by omega))
        · intro h31
          refine zw_7 zr_78_76 rfl ?_
          refine zw_46r (s := 56) zr_78_77 rfl rfl rfl rfl ?_
          refine zw_3 zr_78_80 rfl ?_
          refine zw_7 zr_78_81 rfl ?_
          refine zw_46r (s := 1) zr_78_82 rfl rfl rfl rfl ?_
          refine zw_46i zr_78_85 km2_1_5 rfl rfl rfl ?_
          refine zw_38 zr_78_88 (by omega) ?_
          refine zw_3 zr_78_89 rfl ?_
          refine zw_17 zr_78_90 (by omega) ?_
          refine zw_49 (c := 56) (len := 60) zr_78_91 rfl rfl (by omega) (by omega) ?_
          intro m32 em32
          have hIm32 : zInv m32 := by rw [em32]; exact iu_56 hIm2 (by omega)
          have hFm32 : zFr W_78 m0 m32 := by rw [em32]; exact hFm2.any rfl
          have km32_1_1 : m32 1 1 = g0 := by rw [em32, zUp_ne (by omega)]; exact km2_1_1
          have km32_1_4 : m32 1 4 = g1 := by rw [em32, zUp_ne (by omega)]; exact km2_1_4
          have km32_1_5 : m32 1 5 = g2 := by rw [em32, zUp_ne (by omega)]; exact km2_1_5
          have fm32_2 : m32 2 = F2 := by rw [em32, zUp_fn (by decide)]; exact fm2_2
          have fm32_5 : m32 5 = F5 := by rw [em32, zUp_fn (by decide)]; exact fm2_5
          have fm32_6 : m32 6 = F6 := by rw [em32, zUp_fn (by decide)]; exact fm2_6
          have fm32_7 : m32 7 = F7 := by rw [em32, zUp_fn (by decide)]; exact fm2_7
          have fm32_8 : m32 8 = F8 := by rw [em32, zUp_fn (by decide)]; exact fm2_8
          have fm32_12 : m32 12 = F12 := by rw [em32, zUp_fn (by decide)]; exact fm2_12
          have fm32_56 : m32 56 = zPt f3 ((i1).toNat) (((-g2) - (r13 - r16))) := by rw [em32]; exact (zUp_ff (m := m2)).trans (congrArg (fun q => zPt q ((i1).toNat) (((-g2) - (r13 - r16)))) fm2_56)
          have fm32_57 : m32 57 = f4 := by rw [em32, zUp_fn (by decide)]; exact fm2_57
          clear em32
          refine zw_7 zr_78_92 rfl ?_
          refine zw_46r (s := 57) zr_78_93 rfl rfl rfl rfl ?_
          refine zw_3 zr_78_96 rfl ?_
          refine zw_7 zr_78_97 rfl ?_
          refine zw_46r (s := 1) zr_78_98 rfl rfl rfl rfl ?_
          refine zw_46i zr_78_101 km32_1_5 rfl rfl rfl ?_
          refine zw_3 zr_78_104 rfl ?_
          refine zw_17 zr_78_105 (by omega) ?_
          refine zw_49 (c := 57) (len := 60) zr_78_106 rfl rfl (by omega) (by omega) ?_
          intro m33 em33
          have hIm33 : zInv m33 := by rw [em33]; exact iu_57 hIm32 (by omega)
          have hFm33 : zFr W_78 m0 m33 := by rw [em33]; exact hFm32.any rfl
          have km33_1_1 : m33 1 1 = g0 := by rw [em33, zUp_ne (by omega)]; exact km32_1_1
          have km33_1_4 : m33 1 4 = g1 := by rw [em33, zUp_ne (by omega)]; exact km32_1_4
          have km33_1_5 : m33 1 5 = g2 := by rw [em33, zUp_ne (by omega)]; exact km32_1_5
          have fm33_2 : m33 2 = F2 := by rw [em33, zUp_fn (by decide)]; exact fm32_2
          have fm33_5 : m33 5 = F5 := by rw [em33, zUp_fn (by decide)]; exact fm32_5
          have fm33_6 : m33 6 = F6 := by rw [em33, zUp_fn (by decide)]; exact fm32_6
          have fm33_7 : m33 7 = F7 := by rw [em33, zUp_fn (by decide)]; exact fm32_7
          have fm33_8 : m33 8 = F8 := by rw [em33, zUp_fn (by decide)]; exact fm32_8
          have fm33_12 : m33 12 = F12 := by rw [em33, zUp_fn (by decide)]; exact fm32_12
          have fm33_56 : m33 56 = zPt f3 ((i1).toNat) (((-g2) - (r13 - r16))) := by rw [em33, zUp_fn (by decide)]; exact fm32_56
          have fm33_57 : m33 57 = zPt f4 ((i1).toNat) ((g2 - (r13 - r16))) := by rw [em33]; exact (zUp_ff (m := m32)).trans (congrArg (fun q => zPt q ((i1).toNat) ((g2 - (r13 - r16)))) fm32_57)
          clear em33
          refine zw_42 zr_78_107 ?_
          refine zw_15 (c := 1) (L' := [(2, 55), (0, (i1 + 1)), (0, x10), (0, (r13 - r16)), (0, x17)]) zr_78_161 rfl (by decide) (by omega) rfl ?_
          refine zw_42 zr_78_164 ?_
          exact zw_less (L := [(2, 55), (0, (i1 + 1)), (9, 0), (9, 0), (9, 0)]) ⟨Or.inr rfl, Or.inr rfl, Or.inl rfl, Or.inl rfl, Or.inl rfl, trivial⟩ (ihlp2_5 ((i1 + 1)) (zPt f3 ((i1).toNat) (((-g2) - (r13 - r16)))) (zPt f4 ((i1).toNat) ((g2 - (r13 - r16)))) m33 hIm33 hFm33  km33_1_1 km33_1_4 km33_1_5 fm33_2 fm33_5 fm33_6 fm33_7 fm33_8 fm33_12 fm33_56 fm33_57 (by omega) (by omega) (zBn_s hv0lp2_5 (by omega) qx10 hA hB po0_r13 po0_r16 (by omega)) (by omega) (by omega))
  exact lp2_5 _ (0) (F56) (F57) m0 hI0 hF0  hg0 hg1 hg2 hG2 hG5 hG6 hG7 hG8 hG12 hG56 hG57 (by omega) (by omega) (zBn_0) (by omega) (Nat.lt_succ_self _)

set_option maxHeartbeats 8000000 in
theorem th_53 {E : zE} {d : Nat} {m0 : zM} {g0 : Int} {g1 : Int} {g2 : Int} (hd : 1 ≤ d) (hI0 : zInv m0) (hg0 : m0 1 1 = g0) (hg1 : m0 1 2 = g1) (hg2 : m0 1 3 = g2) : zC E d 53 [(2, 1)] m0 (fun v m' => ∃ r : Int, v = (1, r) ∧ 0 ≤ r ∧ r ≤ 1152921504606846975 ∧ m0 = m' ∧ (zSy r g1 g2 g0)) := by
  have bg0 := ib_1_1 hI0
  rw [hg0] at bg0
  have bg1 := ib_1_2 hI0
  rw [hg1] at bg1
  have bg2 := ib_1_3 hI0
  rw [hg2] at bg2
  generalize hQ : (fun (v : zV) (m' : zM) => ∃ r : Int, v = (1, r) ∧ 0 ≤ r ∧ r ≤ 1152921504606846975 ∧ m0 = m' ∧ (zSy r g1 g2 g0)) = Q
  show zW E d 53 0 [(2, 1)] [] m0 Q
  refine zw_push zr_53_0 ?_
  refine zw_7 zr_53_1 rfl ?_
  refine zw_46i zr_53_2 hg0 rfl rfl rfl ?_
  refine zw_33q zr_53_5 (by omega) ?_
  intro x1 ex1 hx1a hx1b
  refine zw_push zr_53_6 ?_
  refine zw_28 zr_53_7 (by omega) ?_
  refine zw_7 zr_53_8 rfl ?_
  refine zw_46l zr_53_9 hg1 rfl rfl rfl ?_
  refine zw_push zr_53_12 ?_
  refine zw_32c zr_53_15 (by omega) ?_
  refine zw_30n (y := g1) zr_53_16 (by omega) (by omega) ?_
  intro x2 ex2 hx2a hx2b
  refine zw_7 zr_53_17 rfl ?_
  refine zw_46l zr_53_18 hg2 rfl rfl rfl ?_
  refine zw_push zr_53_21 ?_
  refine zw_32c zr_53_24 (by omega) ?_
  refine zw_30n (y := g2) zr_53_25 (by omega) (by omega) ?_
  intro x3 ex3 hx3a hx3b
  refine zw_R zr_53_26 (by decide) zm_53 (v := (1, x3)) rfl ?_
  rw [← hQ]; exact ⟨_, rfl, by omega, by omega, rfl, zSy_mk (by assumption) (by assumption) (by assumption) (by omega)⟩

abbrev W_4_58 : List (Nat × Nat) := [(58, 1000)]
set_option maxHeartbeats 8000000 in
theorem th_4_58 {E : zE} {d : Nat} {m0 : zM} {a0 : Int} {F58 : Nat → Int} (hd : 1 ≤ d) (hI0 : zInv m0) (hG58 : m0 58 = F58) (ha0 : 0 ≤ a0 ∧ a0 ≤ 1000000) : zC E d 4 [(2, 58), (0, a0)] m0 (fun v m' => v = (9, 0) ∧ zInv m' ∧ zFr W_4_58 m0 m' ∧ (zFil (m' 58) 10 a0)) := by
  have hF0 : zFr W_4_58 m0 m0 := zFr.rfl
  generalize hQ : (fun (v : zV) (m' : zM) => v = (9, 0) ∧ zInv m' ∧ zFr W_4_58 m0 m' ∧ (zFil (m' 58) 10 a0)) = Q
  show zW E d 4 0 [(2, 58), (0, a0), (9, 0), (9, 0)] [] m0 Q
  refine zw_push zr_4_0 ?_
  refine zw_9 (L' := [(2, 58), (0, a0), (0, 0), (9, 0)]) zr_4_1 (Nat.le_of_ble_eq_true rfl) rfl ?_
  refine zw_7 zr_4_2 rfl ?_
  refine zw_101 (c := 58) (len := 10) zr_4_3 rfl rfl (by decide) ?_
  refine zw_9 (L' := [(2, 58), (0, a0), (0, 0), (0, 10)]) zr_4_4 (Nat.le_of_ble_eq_true rfl) rfl ?_
  have lp5_4 : ∀ (nlp5_4 : Nat) (i1 : Int) (f3 : Nat → Int) (m2 : zM), zInv m2 → zFr W_4_58 m0 m2 → m2 58 = f3 → 0 ≤ i1 → i1 ≤ 10 → (zFil f3 i1 a0) → (10 - i1).toNat < nlp5_4 → zW E (d) 4 5 [(2, 58), (0, a0), (0, i1), (0, 10)] [] m2 Q := by
    intro nlp5_4
    induction nlp5_4 with
    | zero =>
      intros
      exact absurd (by assumption : _ < 0) (Nat.not_lt_zero _)
    | succ nlp5_4 ihlp5_4 =>
      intro i1 f3 m2 hIm2 hFm2 fm2_58 li1 ui1 hv0lp5_4 hmlp5_4
      refine zw_3 zr_4_5 rfl ?_
      refine zw_3 zr_4_6 rfl ?_
      refine zw_41_3 zr_4_7 ?_ ?_
      · intro h6
        refine zw_R zr_4_20 (by decide) zm_4 (v := (9, 0)) rfl ?_
        rw [← hQ]; exact ⟨rfl, hIm2, hFm2, by rw [fm2_58]; exact zFil_le hv0lp5_4 (by omega)⟩
      · intro h8
        refine zw_7 zr_4_10 rfl ?_
        refine zw_3 zr_4_11 rfl ?_
        refine zw_3 zr_4_12 rfl ?_
        refine zw_49 (c := 58) (len := 10) zr_4_13 rfl rfl (by omega) (by omega) ?_
        intro m9 em9
        have hIm9 : zInv m9 := by rw [em9]; exact iu_58 hIm2 (by omega)
        have hFm9 : zFr W_4_58 m0 m9 := by rw [em9]; exact hFm2.any rfl
        have fm9_58 : m9 58 = zPt f3 ((i1).toNat) a0 := by rw [em9]; exact (zUp_ff (m := m2)).trans (congrArg (fun q => zPt q ((i1).toNat) a0) fm2_58)
        clear em9
        refine zw_15 (c := 1) (L' := [(2, 58), (0, a0), (0, (i1 + 1)), (0, 10)]) zr_4_14 rfl (by decide) (by omega) rfl ?_
        refine zw_42 zr_4_17 ?_
        exact zw_less (L := [(2, 58), (0, a0), (0, (i1 + 1)), (0, 10)]) ⟨Or.inr rfl, Or.inr rfl, Or.inr rfl, Or.inr rfl, trivial⟩ (ihlp5_4 ((i1 + 1)) (zPt f3 ((i1).toNat) a0) m9 hIm9 hFm9   fm9_58 (by omega) (by omega) (zFil_put hv0lp5_4 (by omega)) (by omega))
  exact lp5_4 _ (0) (F58) m0 hI0 hF0  hG58 (by omega) (by omega) (zFil_0) (Nat.lt_succ_self _)

abbrev W_4_59 : List (Nat × Nat) := [(59, 1000)]
set_option maxHeartbeats 8000000 in
theorem th_4_59 {E : zE} {d : Nat} {m0 : zM} {a0 : Int} {F59 : Nat → Int} (hd : 1 ≤ d) (hI0 : zInv m0) (hG59 : m0 59 = F59) (ha0 : (-1) ≤ a0 ∧ a0 ≤ (-1)) : zC E d 4 [(2, 59), (0, a0)] m0 (fun v m' => v = (9, 0) ∧ zInv m' ∧ zFr W_4_59 m0 m' ∧ (zFil (m' 59) 10 a0)) := by
  have hF0 : zFr W_4_59 m0 m0 := zFr.rfl
  generalize hQ : (fun (v : zV) (m' : zM) => v = (9, 0) ∧ zInv m' ∧ zFr W_4_59 m0 m' ∧ (zFil (m' 59) 10 a0)) = Q
  show zW E d 4 0 [(2, 59), (0, a0), (9, 0), (9, 0)] [] m0 Q
  refine zw_push zr_4_0 ?_
  refine zw_9 (L' := [(2, 59), (0, a0), (0, 0), (9, 0)]) zr_4_1 (Nat.le_of_ble_eq_true rfl) rfl ?_
  refine zw_7 zr_4_2 rfl ?_
  refine zw_101 (c := 59) (len := 10) zr_4_3 rfl rfl (by decide) ?_
  refine zw_9 (L' := [(2, 59), (0, a0), (0, 0), (0, 10)]) zr_4_4 (Nat.le_of_ble_eq_true rfl) rfl ?_
  have lp5_4 : ∀ (nlp5_4 : Nat) (i1 : Int) (f3 : Nat → Int) (m2 : zM), zInv m2 → zFr W_4_59 m0 m2 → m2 59 = f3 → 0 ≤ i1 → i1 ≤ 10 → (zFil f3 i1 a0) → (10 - i1).toNat < nlp5_4 → zW E (d) 4 5 [(2, 59), (0, a0), (0, i1), (0, 10)] [] m2 Q := by
    intro nlp5_4
    induction nlp5_4 with
    | zero =>
      intros
      exact absurd (by assumption : _ < 0) (Nat.not_lt_zero _)
    | succ nlp5_4 ihlp5_4 =>
      intro i1 f3 m2 hIm2 hFm2 fm2_59 li1 ui1 hv0lp5_4 hmlp5_4
      refine zw_3 zr_4_5 rfl ?_
      refine zw_3 zr_4_6 rfl ?_
      refine zw_41_3 zr_4_7 ?_ ?_
      · intro h6
        refine zw_R zr_4_20 (by decide) zm_4 (v := (9, 0)) rfl ?_
        rw [← hQ]; exact ⟨rfl, hIm2, hFm2, by rw [fm2_59]; exact zFil_le hv0lp5_4 (by omega)⟩
      · intro h8
        refine zw_7 zr_4_10 rfl ?_
        refine zw_3 zr_4_11 rfl ?_
        refine zw_3 zr_4_12 rfl ?_
        refine zw_49 (c := 59) (len := 10) zr_4_13 rfl rfl (by omega) (by omega) ?_
        intro m9 em9
        have hIm9 : zInv m9 := by rw [em9]; exact iu_59 hIm2 (by omega)
        have hFm9 : zFr W_4_59 m0 m9 := by rw [em9]; exact hFm2.any rfl
        have fm9_59 : m9 59 = zPt f3 ((i1).toNat) a0 := by rw [em9]; exact (zUp_ff (m := m2)).trans (congrArg (fun q => zPt q ((i1).toNat) a0) fm2_59)
        clear em9
        refine zw_15 (c := 1) (L' := [(2, 59), (0, a0), (0, (i1 + 1)), (0, 10)]) zr_4_14 rfl (by decide) (by omega) rfl ?_
        refine zw_42 zr_4_17 ?_
        exact zw_less (L := [(2, 59), (0, a0), (0, (i1 + 1)), (0, 10)]) ⟨Or.inr rfl, Or.inr rfl, Or.inr rfl, Or.inr rfl, trivial⟩ (ihlp5_4 ((i1 + 1)) (zPt f3 ((i1).toNat) a0) m9 hIm9 hFm9   fm9_59 (by omega) (by omega) (zFil_put hv0lp5_4 (by omega)) (by omega))
  exact lp5_4 _ (0) (F59) m0 hI0 hF0  hG59 (by omega) (by omega) (zFil_0) (Nat.lt_succ_self _)

abbrev W_79 : List (Nat × Nat) := [(58, 1000), (59, 1000)]
set_option maxHeartbeats 8000000 in
theorem th_79 {E : zE} {d : Nat} {m0 : zM} {a0 : Int} {a1 : Int} {a2 : Int} {a3 : Int} {gC : Int} {F58 : Nat → Int} {F59 : Nat → Int} (hd : 1 ≤ d) (hI0 : zInv m0) (hG58 : m0 58 = F58) (hG59 : m0 59 = F59) (ha0 : 0 ≤ a0 ∧ a0 ≤ 9) (ha1 : 0 ≤ a1 ∧ a1 ≤ 9) (ha2 : (-2000) ≤ a2 ∧ a2 ≤ 2000) (ha3 : 0 ≤ a3 ∧ a3 ≤ 59) (hp0 : zLo F58 gC) (hp1 : 0 ≤ gC ∧ gC ≤ 2900000) : zC E d 79 [(2, 55), (0, a0), (0, a1), (0, a2), (0, a3)] m0 (fun v m' => ∃ r : Int, v = (0, r) ∧ 0 ≤ r ∧ r ≤ 1 ∧ zInv m' ∧ zFr W_79 m0 m' ∧ (m' 58 = loD F58 a0.toNat a1.toNat a2) ∧ (m' 59 = loW F59 F58 a0.toNat a1.toNat a2 a3) ∧ (r = loR F58 a0.toNat a1.toNat a2)) := by
  have hF0 : zFr W_79 m0 m0 := zFr.rfl
  generalize hQ : (fun (v : zV) (m' : zM) => ∃ r : Int, v = (0, r) ∧ 0 ≤ r ∧ r ≤ 1 ∧ zInv m' ∧ zFr W_79 m0 m' ∧ (m' 58 = loD F58 a0.toNat a1.toNat a2) ∧ (m' 59 = loW F59 F58 a0.toNat a1.toNat a2 a3) ∧ (r = loR F58 a0.toNat a1.toNat a2)) = Q
  show zW E d 79 0 [(2, 55), (0, a0), (0, a1), (0, a2), (0, a3)] [] m0 Q
  refine zw_7 zr_79_0 rfl ?_
  refine zw_46r (s := 58) zr_79_1 rfl rfl rfl rfl ?_
  refine zw_3 zr_79_4 rfl ?_
  refine zw_48 (c := 58) (len := 10) zr_79_5 rfl rfl (by omega) (by omega) ?_
  intro x1 ex1
  have bx1 := ib_58 hI0 (k := (a1).toNat) (by omega)
  rw [← ex1] at bx1
  have qx1 : x1 = F58 (a1).toNat := by rw [← hG58]; exact ex1
  have hB := qx1
  have z3 := hp0 a1.toNat (by omega)
  refine zw_push zr_79_6 ?_
  refine zw_41_1 zr_79_8 ?_ ?_
  · intro h4
    refine zw_push zr_79_28 ?_
    refine zw_R zr_79_29 (by decide) zm_79 (v := (0, 0)) (zRetB (by omega)) ?_
    rw [← hQ]; exact ⟨_, rfl, by omega, by omega, hI0, hF0, by rw [hG58]; unfold loD; first | exact (if_pos (by omega)).symm | (rw [hB]; exact (if_neg (by omega)).symm), by rw [hG59]; unfold loW; first | exact (if_pos (by omega)).symm | exact (if_neg (by omega)).symm, by unfold loR; first | exact (if_pos (by omega)).symm | exact (if_neg (by omega)).symm⟩
  · intro h8
    refine zw_7 zr_79_11 rfl ?_
    refine zw_46r (s := 58) zr_79_12 rfl rfl rfl rfl ?_
    refine zw_3 zr_79_15 rfl ?_
    refine zw_48 (c := 58) (len := 10) zr_79_16 rfl rfl (by omega) (by omega) ?_
    intro x9 ex9
    have bx9 := ib_58 hI0 (k := (a0).toNat) (by omega)
    rw [← ex9] at bx9
    have qx9 : x9 = F58 (a0).toNat := by rw [← hG58]; exact ex9
    clear ex9
    refine zw_7 zr_79_17 rfl ?_
    refine zw_46r (s := 58) zr_79_18 rfl rfl rfl rfl ?_
    refine zw_3 zr_79_21 rfl ?_
    refine zw_48k (c := 58) (len := 10) zr_79_22 rfl rfl (by omega) (by omega) rfl ex1.symm ?_
    refine zw_3 zr_79_23 rfl ?_
    refine zw_16 zr_79_24 (by omega) ?_
    refine zw_41_2 zr_79_25 ?_ ?_
    · intro h10
      refine zw_7 zr_79_30 rfl ?_
      refine zw_46r (s := 58) zr_79_31 rfl rfl rfl rfl ?_
      refine zw_3 zr_79_34 rfl ?_
      refine zw_7 zr_79_35 rfl ?_
      refine zw_46r (s := 58) zr_79_36 rfl rfl rfl rfl ?_
      refine zw_3 zr_79_39 rfl ?_
      refine zw_48k (c := 58) (len := 10) zr_79_40 rfl rfl (by omega) (by omega) rfl ex1.symm ?_
      refine zw_3 zr_79_41 rfl ?_
      refine zw_16 zr_79_42 (by omega) ?_
      refine zw_49 (c := 58) (len := 10) zr_79_43 rfl rfl (by omega) (by omega) ?_
      intro m11 em11
      have hIm11 : zInv m11 := by rw [em11]; exact iu_58 hI0 (by omega)
      have hFm11 : zFr W_79 m0 m11 := by rw [em11]; exact hF0.any rfl
      have fm11_58 : m11 58 = zPt F58 ((a0).toNat) ((x1 + a2)) := by rw [em11]; exact (zUp_ff (m := m0)).trans (congrArg (fun q => zPt q ((a0).toNat) ((x1 + a2))) hG58)
      have fm11_59 : m11 59 = F59 := by rw [em11, zUp_fn (by decide)]; exact hG59
      clear em11
      refine zw_7 zr_79_44 rfl ?_
      refine zw_46r (s := 59) zr_79_45 rfl rfl rfl rfl ?_
      refine zw_3 zr_79_48 rfl ?_
      refine zw_4 zr_79_49 rfl ?_
      refine zw_49 (c := 59) (len := 10) zr_79_51 rfl rfl (by omega) (by omega) ?_
      intro m12 em12
      have hIm12 : zInv m12 := by rw [em12]; exact iu_59 hIm11 (by omega)
      have hFm12 : zFr W_79 m0 m12 := by rw [em12]; exact hFm11.any rfl
      have fm12_58 : m12 58 = zPt F58 ((a0).toNat) ((x1 + a2)) := by rw [em12, zUp_fn (by decide)]; exact fm11_58
      have fm12_59 : m12 59 = zPt F59 ((a0).toNat) a3 := by rw [em12]; exact (zUp_ff (m := m11)).trans (congrArg (fun q => zPt q ((a0).toNat) a3) fm11_59)
      clear em12
      refine zw_push zr_79_52 ?_
      refine zw_R zr_79_53 (by decide) zm_79 (v := (0, 1)) (zRetB (by omega)) ?_
      rw [← hQ]; exact ⟨_, rfl, by omega, by omega, hIm12, hFm12, by rw [fm12_58]; unfold loD; first | exact (if_pos (by omega)).symm | (rw [hB]; exact (if_neg (by omega)).symm), by rw [fm12_59]; unfold loW; first | exact (if_pos (by omega)).symm | exact (if_neg (by omega)).symm, by unfold loR; first | exact (if_pos (by omega)).symm | exact (if_neg (by omega)).symm⟩
    · intro h16
      refine zw_push zr_79_28 ?_
      refine zw_R zr_79_29 (by decide) zm_79 (v := (0, 0)) (zRetB (by omega)) ?_
      rw [← hQ]; exact ⟨_, rfl, by omega, by omega, hI0, hF0, by rw [hG58]; unfold loD; first | exact (if_pos (by omega)).symm | (rw [hB]; exact (if_neg (by omega)).symm), by rw [hG59]; unfold loW; first | exact (if_pos (by omega)).symm | exact (if_neg (by omega)).symm, by unfold loR; first | exact (if_pos (by omega)).symm | exact (if_neg (by omega)).symm⟩

abbrev W_80 : List (Nat × Nat) := [(58, 1000), (59, 1000)]
set_option maxHeartbeats 8000000 in
theorem th_80 {E : zE} {d : Nat} {m0 : zM} {a0 : Int} {g0 : Int} {gC : Int} {F6 : Nat → Int} {F7 : Nat → Int} {F56 : Nat → Int} {F57 : Nat → Int} {F58 : Nat → Int} {F59 : Nat → Int} (hd : 2 ≤ d) (hI0 : zInv m0) (hg0 : m0 1 1 = g0) (hG6 : m0 6 = F6) (hG7 : m0 7 = F7) (hG56 : m0 56 = F56) (hG57 : m0 57 = F57) (hG58 : m0 58 = F58) (hG59 : m0 59 = F59) (ha0 : 0 ≤ a0 ∧ a0 ≤ 1152921504606846975) (hp0 : zLo F58 gC) (hp1 : 0 ≤ gC ∧ gC ≤ 2600000) : zC E d 80 [(2, 55), (1, a0)] m0 (fun v m' => ∃ r : Int, v = (0, r) ∧ 0 ≤ r ∧ r ≤ 1 ∧ zInv m' ∧ zFr W_80 m0 m' ∧ (m' 58 = tgD (zc6 F6) (zc6 F7) F56 F57 a0 F58 g0.toNat) ∧ (m' 59 = tgW (zc6 F6) (zc6 F7) F56 F57 a0 F59 F58 g0.toNat) ∧ (r = tgR (zc6 F6) (zc6 F7) F56 F57 a0 F58 g0.toNat) ∧ (zLo (m' 58) (gC + 240000))) := by
  have hF0 : zFr W_80 m0 m0 := zFr.rfl
  have bg0 := ib_1_1 hI0
  rw [hg0] at bg0
  generalize hQ : (fun (v : zV) (m' : zM) => ∃ r : Int, v = (0, r) ∧ 0 ≤ r ∧ r ≤ 1 ∧ zInv m' ∧ zFr W_80 m0 m' ∧ (m' 58 = tgD (zc6 F6) (zc6 F7) F56 F57 a0 F58 g0.toNat) ∧ (m' 59 = tgW (zc6 F6) (zc6 F7) F56 F57 a0 F59 F58 g0.toNat) ∧ (r = tgR (zc6 F6) (zc6 F7) F56 F57 a0 F58 g0.toNat) ∧ (zLo (m' 58) (gC + 240000))) = Q
  show zW E d 80 0 [(2, 55), (1, a0), (9, 0), (9, 0), (9, 0), (9, 0), (9, 0), (9, 0), (9, 0)] [] m0 Q
  refine zw_push zr_80_0 ?_
  refine zw_9 (L' := [(2, 55), (1, a0), (9, 0), (0, 0), (9, 0), (9, 0), (9, 0), (9, 0), (9, 0)]) zr_80_1 (Nat.le_of_ble_eq_true rfl) rfl ?_
  refine zw_push zr_80_2 ?_
  refine zw_10 (L' := [(2, 55), (1, a0), (9, 0), (0, 0), (0, 0), (9, 0), (9, 0), (9, 0), (9, 0)]) zr_80_3 (Nat.le_of_ble_eq_true rfl) rfl ?_
  have lp5_6 : ∀ (nlp5_6 : Nat) (i1 i2 : Int) (f4 : Nat → Int) (f5 : Nat → Int) (m3 : zM), zInv m3 → zFr W_80 m0 m3 → m3 1 1 = g0 → m3 6 = F6 → m3 7 = F7 → m3 56 = F56 → m3 57 = F57 → m3 58 = f4 → m3 59 = f5 → 0 ≤ i1 → i1 ≤ 1 → 0 ≤ i2 → i2 ≤ 60 → (f4 = tgD (zc6 F6) (zc6 F7) F56 F57 a0 F58 (i2).toNat) → (f5 = tgW (zc6 F6) (zc6 F7) F56 F57 a0 F59 F58 (i2).toNat) → (i1 = tgR (zc6 F6) (zc6 F7) F56 F57 a0 F58 (i2).toNat) → (zLo f4 (gC + 4000 * i2)) → (i2 ≤ g0) → (60 - i2).toNat < nlp5_6 → zW E (d) 80 5 [(2, 55), (1, a0), (9, 0), (0, i1), (0, i2), (9, 0), (9, 0), (9, 0), (9, 0)] [] m3 Q := by
    intro nlp5_6
    induction nlp5_6 with
    | zero =>
      intros
      exact absurd (by assumption : _ < 0) (Nat.not_lt_zero _)
    | succ nlp5_6 ihlp5_6 =>
      intro i1 i2 f4 f5 m3 hIm3 hFm3 km3_1_1 fm3_6 fm3_7 fm3_56 fm3_57 fm3_58 fm3_59 li1 ui1 li2 ui2 hv0lp5_6 hv1lp5_6 hv2lp5_6 hv3lp5_6 hv4lp5_6 hmlp5_6
      refine zw_4 zr_80_5 rfl ?_
      refine zw_7 zr_80_7 rfl ?_
      refine zw_46r (s := 1) zr_80_8 rfl rfl rfl rfl ?_
      refine zw_46i zr_80_11 km3_1_1 rfl rfl rfl ?_
      refine zw_41_3 zr_80_14 ?_ ?_
      · intro h8
        refine zw_3 zr_80_117 rfl ?_
        refine zw_R zr_80_118 (by decide) zm_80 (v := (0, i1)) (zRetB (by omega)) ?_
        rw [← hQ]; exact ⟨_, rfl, by omega, by omega, hIm3, hFm3, by rw [fm3_58]; have z := hv0lp5_6; rw [show (i2).toNat = g0.toNat by omega] at z; exact z, by rw [fm3_59]; have z := hv1lp5_6; rw [show (i2).toNat = g0.toNat by omega] at z; exact z, by have z := hv2lp5_6; rw [show (i2).toNat = g0.toNat by omega] at z; exact z, by rw [fm3_58]; exact zLo_m hv3lp5_6 (by omega)⟩
      · intro h13
        refine zw_5 zr_80_17 rfl ?_
        refine zw_4 zr_80_18 rfl ?_
        refine zw_34p zr_80_20 (by omega) (by omega) ?_
        intro x14 hx14c hx14a hx14b
        refine zw_push zr_80_21 ?_
        refine zw_30o zr_80_22 (by omega) ?_
        refine zw_push zr_80_23 ?_
        refine zw_39_1 zr_80_24 zr_80_25 ?_ ?_
        · intro h15
          refine zw_15 (c := 1) (L' := [(2, 55), (1, a0), (9, 0), (0, i1), (0, (i2 + 1)), (9, 0), (9, 0), (9, 0), (9, 0)]) zr_80_111 rfl (by decide) (by omega) rfl ?_
          refine zw_42 zr_80_114 ?_
          exact zw_less (L := [(2, 55), (1, a0), (9, 0), (0, i1), (0, (i2 + 1)), (9, 0), (9, 0), (9, 0), (9, 0)]) ⟨Or.inr rfl, Or.inr rfl, Or.inl rfl, Or.inr rfl, Or.inr rfl, Or.inl rfl, Or.inl rfl, Or.inl rfl, Or.inl rfl, trivial⟩ (ihlp5_6 (i1) ((i2 + 1)) (f4) (f5) m3 hIm3 hFm3  km3_1_1 fm3_6 fm3_7 fm3_56 fm3_57 fm3_58 fm3_59 (by omega) (by omega) (by omega) (by omega) (by first | exact tgD_y hv0lp5_6 (by omega) (by omega) qzz qzz hH hL zz zz | exact tgD_n hv0lp5_6 (by omega) (by omega)) (by first | exact tgW_y hv1lp5_6 hv0lp5_6 (by omega) (by omega) qzz qzz hH hL zz zz zz | exact tgW_n hv1lp5_6 (by omega) (by omega)) (by first | exact tgR_y hv2lp5_6 hv0lp5_6 (by omega) (by omega) qzz qzz hH hL zz zz zz (by omega) | exact tgR_n hv2lp5_6 (by omega) (by omega)) (by first | exact zLo_d2 hv3lp5_6 zz zz (by omega) (by omega) (by omega) (by omega) (by omega) | exact zLo_m hv3lp5_6 (by omega)) (by omega) (by omega))
        · intro h20
          refine zw_7 zr_80_28 rfl ?_
          refine zw_46r (s := 1) zr_80_29 rfl rfl rfl rfl ?_
          refine zw_46r (s := 6) zr_80_32 rfl rfl rfl rfl ?_
          refine zw_4 zr_80_35 rfl ?_
          refine zw_48 (c := 6) (len := 60) zr_80_37 rfl rfl (by omega) (by omega) ?_
          intro x21 ex21
          have bx21 := ib_6 hIm3 (k := (i2).toNat) (by omega)
          rw [← ex21] at bx21
          have qx21 : x21 = F6 (i2).toNat := by rw [← fm3_6]; exact ex21
          clear ex21
          refine zw_10 (L' := [(2, 55), (1, a0), (9, 0), (0, i1), (0, i2), (0, x21), (9, 0), (9, 0), (9, 0)]) zr_80_38 (Nat.le_of_ble_eq_true rfl) rfl ?_
          refine zw_7 zr_80_40 rfl ?_
          refine zw_46r (s := 1) zr_80_41 rfl rfl rfl rfl ?_
          refine zw_46r (s := 7) zr_80_44 rfl rfl rfl rfl ?_
          refine zw_4 zr_80_47 rfl ?_
          refine zw_48 (c := 7) (len := 60) zr_80_49 rfl rfl (by omega) (by omega) ?_
          intro x22 ex22
          have bx22 := ib_7 hIm3 (k := (i2).toNat) (by omega)
          rw [← ex22] at bx22
          have qx22 : x22 = F7 (i2).toNat := by rw [← fm3_7]; exact ex22
          clear ex22
          refine zw_10 (L' := [(2, 55), (1, a0), (9, 0), (0, i1), (0, i2), (0, x21), (0, x22), (9, 0), (9, 0)]) zr_80_50 (Nat.le_of_ble_eq_true rfl) rfl ?_
          refine zw_7 zr_80_52 rfl ?_
          refine zw_4 zr_80_53 rfl ?_
          refine zw_4 zr_80_55 rfl ?_
          refine zw_7 zr_80_57 rfl ?_
          refine zw_46r (s := 57) zr_80_58 rfl rfl rfl rfl ?_
          refine zw_4 zr_80_61 rfl ?_
          refine zw_48 (c := 57) (len := 60) zr_80_63 rfl rfl (by omega) (by omega) ?_
          intro x23 ex23
          have bx23 := ib_57 hIm3 (k := (i2).toNat) (by omega)
          rw [← ex23] at bx23
          have qx23 : x23 = F57 (i2).toNat := by rw [← fm3_57]; exact ex23
          clear ex23
          have hH := qx23
          refine zw_4 zr_80_64 rfl ?_
          refine zw_C zr_80_66 (Or.inl rfl) zm_79 rfl rfl ⟨Nat.le_of_ble_eq_true rfl, Nat.le_of_ble_eq_true rfl, Nat.le_of_ble_eq_true rfl, rfl, by decide⟩ (by omega) (th_79 (d := d - 1) (by omega) hIm3 (a0 := x21) (a1 := x22) (a2 := x23) (a3 := i2)  (gC := gC + 4000 * i2 + 2000) (F58 := f4) (F59 := f5)  fm3_58 fm3_59 (by omega) (by omega) (by omega) (by omega) (by first | exact zLo_d hv3lp5_6 zz (by omega) (by omega) (by omega) | exact zLo_m hv3lp5_6 (by omega)) (by omega)) ?_
          rintro _ m27 ⟨r28, rfl, hr28a, hr28b, hIm27, gm27, po0_r28, po1_r28, po2_r28⟩
          have hFm27 : zFr W_80 m0 m27 := hFm3.trans gm27 rfl
          have km27_1_1 : m27 1 1 = g0 := (gm27 1 1 rfl).trans km3_1_1
          have fm27_6 : m27 6 = F6 := (funext fun k => gm27 6 k rfl).trans fm3_6
          have fm27_7 : m27 7 = F7 := (funext fun k => gm27 7 k rfl).trans fm3_7
          have fm27_56 : m27 56 = F56 := (funext fun k => gm27 56 k rfl).trans fm3_56
          have fm27_57 : m27 57 = F57 := (funext fun k => gm27 57 k rfl).trans fm3_57
          obtain ⟨f29, fm27_58⟩ : ∃ f, m27 58 = f := ⟨_, rfl⟩
          try rw [fm27_58] at po0_r28
          obtain ⟨f30, fm27_59⟩ : ∃ f, m27 59 = f := ⟨_, rfl⟩
          try rw [fm27_59] at po1_r28
          show zW E (d) 80 69 [(2, 55), (1, a0), (9, 0), (0, i1), (0, i2), (0, x21), (0, x22), (9, 0), (9, 0)] [(0, r28)] m27 Q
          refine zw_10 (L' := [(2, 55), (1, a0), (9, 0), (0, i1), (0, i2), (0, x21), (0, x22), (0, r28), (9, 0)]) zr_80_69 (Nat.le_of_ble_eq_true rfl) rfl ?_
          refine zw_7 zr_80_71 rfl ?_
          refine zw_4 zr_80_72 rfl ?_
          refine zw_4 zr_80_74 rfl ?_
          refine zw_7 zr_80_76 rfl ?_
          refine zw_46r (s := 56) zr_80_77 rfl rfl rfl rfl ?_
          refine zw_4 zr_80_80 rfl ?_
          refine zw_48 (c := 56) (len := 60) zr_80_82 rfl rfl (by omega) (by omega) ?_
          intro x31 ex31
          have bx31 := ib_56 hIm27 (k := (i2).toNat) (by omega)
          rw [← ex31] at bx31
          have qx31 : x31 = F56 (i2).toNat := by rw [← fm27_56]; exact ex31
          clear ex31
          have hL := qx31
          refine zw_38 zr_80_83 (by omega) ?_
          refine zw_4 zr_80_84 rfl ?_
          refine zw_C zr_80_86 (Or.inl rfl) zm_79 rfl rfl ⟨Nat.le_of_ble_eq_true rfl, Nat.le_of_ble_eq_true rfl, Nat.le_of_ble_eq_true rfl, rfl, by decide⟩ (by omega) (th_79 (d := d - 1) (by omega) hIm27 (a0 := x22) (a1 := x21) (a2 := (-x31)) (a3 := i2)  (gC := gC + 4000 * i2 + 2000) (F58 := f29) (F59 := f30)  fm27_58 fm27_59 (by omega) (by omega) (by omega) (by omega) (by first | exact zLo_d hv3lp5_6 po0_r28 (by omega) (by omega) (by omega) | exact zLo_m hv3lp5_6 (by omega)) (by omega)) ?_
          rintro _ m35 ⟨r36, rfl, hr36a, hr36b, hIm35, gm35, po0_r36, po1_r36, po2_r36⟩
          have hFm35 : zFr W_80 m0 m35 := hFm27.trans gm35 rfl
          have km35_1_1 : m35 1 1 = g0 := (gm35 1 1 rfl).trans km27_1_1
          have fm35_6 : m35 6 = F6 := (funext fun k => gm35 6 k rfl).trans fm27_6
          have fm35_7 : m35 7 = F7 := (funext fun k => gm35 7 k rfl).trans fm27_7
          have fm35_56 : m35 56 = F56 := (funext fun k => gm35 56 k rfl).trans fm27_56
          have fm35_57 : m35 57 = F57 := (funext fun k => gm35 57 k rfl).trans fm27_57
          obtain ⟨f37, fm35_58⟩ : ∃ f, m35 58 = f := ⟨_, rfl⟩
          try rw [fm35_58] at po0_r36
          obtain ⟨f38, fm35_59⟩ : ∃ f, m35 59 = f := ⟨_, rfl⟩
          try rw [fm35_59] at po1_r36
          show zW E (d) 80 89 [(2, 55), (1, a0), (9, 0), (0, i1), (0, i2), (0, x21), (0, x22), (0, r28), (9, 0)] [(0, r36)] m35 Q
          refine zw_10 (L' := [(2, 55), (1, a0), (9, 0), (0, i1), (0, i2), (0, x21), (0, x22), (0, r28), (0, r36)]) zr_80_89 (Nat.le_of_ble_eq_true rfl) rfl ?_
          refine zw_3 zr_80_91 rfl ?_
          refine zw_40_4 zr_80_92 ?_ ?_
          · intro h39
            refine zw_push zr_80_105 ?_
            refine zw_42 zr_80_106 ?_
            refine zw_9 (L' := [(2, 55), (1, a0), (9, 0), (0, 1), (0, i2), (0, x21), (0, x22), (0, r28), (0, r36)]) zr_80_110 (Nat.le_of_ble_eq_true rfl) rfl ?_
            refine zw_15 (c := 1) (L' := [(2, 55), (1, a0), (9, 0), (0, 1), (0, (i2 + 1)), (0, x21), (0, x22), (0, r28), (0, r36)]) zr_80_111 rfl (by decide) (by omega) rfl ?_
            refine zw_42 zr_80_114 ?_
            exact zw_less (L := [(2, 55), (1, a0), (9, 0), (0, 1), (0, (i2 + 1)), (9, 0), (9, 0), (9, 0), (9, 0)]) ⟨Or.inr rfl, Or.inr rfl, Or.inl rfl, Or.inr rfl, Or.inr rfl, Or.inl rfl, Or.inl rfl, Or.inl rfl, Or.inl rfl, trivial⟩ (ihlp5_6 (1) ((i2 + 1)) (f37) (f38) m35 hIm35 hFm35  km35_1_1 fm35_6 fm35_7 fm35_56 fm35_57 fm35_58 fm35_59 (by omega) (by omega) (by omega) (by omega) (by first | exact tgD_y hv0lp5_6 (by omega) (by omega) qx21 qx22 hH hL po0_r28 po0_r36 | exact tgD_n hv0lp5_6 (by omega) (by omega)) (by first | exact tgW_y hv1lp5_6 hv0lp5_6 (by omega) (by omega) qx21 qx22 hH hL po0_r28 po1_r28 po1_r36 | exact tgW_n hv1lp5_6 (by omega) (by omega)) (by first | exact tgR_y hv2lp5_6 hv0lp5_6 (by omega) (by omega) qx21 qx22 hH hL po0_r28 po2_r28 po2_r36 (by omega) | exact tgR_n hv2lp5_6 (by omega) (by omega)) (by first | exact zLo_d2 hv3lp5_6 po0_r28 po0_r36 (by omega) (by omega) (by omega) (by omega) (by omega) | exact zLo_m hv3lp5_6 (by omega)) (by omega) (by omega))
          · intro h44
            refine zw_4 zr_80_95 rfl ?_
            refine zw_40_4 zr_80_97 ?_ ?_
            · intro h45
              refine zw_push zr_80_105 ?_
              refine zw_42 zr_80_106 ?_
              refine zw_9 (L' := [(2, 55), (1, a0), (9, 0), (0, 1), (0, i2), (0, x21), (0, x22), (0, r28), (0, r36)]) zr_80_110 (Nat.le_of_ble_eq_true rfl) rfl ?_
              refine zw_15 (c := 1) (L' := [(2, 55), (1, a0), (9, 0), (0, 1), (0, (i2 + 1)), (0, x21), (0, x22), (0, r28), (0, r36)]) zr_80_111 rfl (by decide) (by omega) rfl ?_
              refine zw_42 zr_80_114 ?_
              exact zw_less (L := [(2, 55), (1, a0), (9, 0), (0, 1), (0, (i2 + 1)), (9, 0), (9, 0), (9, 0), (9, 0)]) ⟨Or.inr rfl, Or.inr rfl, Or.inl rfl, Or.inr rfl, Or.inr rfl, Or.inl rfl, Or.inl rfl, Or.inl rfl, Or.inl rfl, trivial⟩ (ihlp5_6 (1) ((i2 + 1)) (f37) (f38) m35 hIm35 hFm35  km35_1_1 fm35_6 fm35_7 fm35_56 fm35_57 fm35_58 fm35_59 (by omega) (by omega) (by omega) (by omega) (by first | exact tgD_y hv0lp5_6 (by omega) (by omega) qx21 qx22 hH hL po0_r28 po0_r36 | exact tgD_n hv0lp5_6 (by omega) (by omega)) (by first | exact tgW_y hv1lp5_6 hv0lp5_6 (by omega) (by omega) qx21 qx22 hH hL po0_r28 po1_r28 po1_r36 | exact tgW_n hv1lp5_6 (by omega) (by omega)) (by first | exact tgR_y hv2lp5_6 hv0lp5_6 (by omega) (by omega) qx21 qx22 hH hL po0_r28 po2_r28 po2_r36 (by omega) | exact tgR_n hv2lp5_6 (by omega) (by omega)) (by first | exact zLo_d2 hv3lp5_6 po0_r28 po0_r36 (by omega) (by omega) (by omega) (by omega) (by omega) | exact zLo_m hv3lp5_6 (by omega)) (by omega) (by omega))
            · intro h50
              refine zw_4 zr_80_100 rfl ?_
              refine zw_40_1 zr_80_102 ?_ ?_
              · intro h51
                refine zw_push zr_80_109 ?_
                refine zw_9 (L' := [(2, 55), (1, a0), (9, 0), (0, 0), (0, i2), (0, x21), (0, x22), (0, r28), (0, r36)]) zr_80_110 (Nat.le_of_ble_eq_true rfl) rfl ?_
                refine zw_15 (c := 1) (L' := [(2, 55), (1, a0), (9, 0), (0, 0), (0, (i2 + 1)), (0, x21), (0, x22), (0, r28), (0, r36)]) zr_80_111 rfl (by decide) (by omega) rfl ?_
                refine zw_42 zr_80_114 ?_
                exact zw_less (L := [(2, 55), (1, a0), (9, 0), (0, 0), (0, (i2 + 1)), (9, 0), (9, 0), (9, 0), (9, 0)]) ⟨Or.inr rfl, Or.inr rfl, Or.inl rfl, Or.inr rfl, Or.inr rfl, Or.inl rfl, Or.inl rfl, Or.inl rfl, Or.inl rfl, trivial⟩ (ihlp5_6 (0) ((i2 + 1)) (f37) (f38) m35 hIm35 hFm35  km35_1_1 fm35_6 fm35_7 fm35_56 fm35_57 fm35_58 fm35_59 (by omega) (by omega) (by omega) (by omega) (by first | exact tgD_y hv0lp5_6 (by omega) (by omega) qx21 qx22 hH hL po0_r28 po0_r36 | exact tgD_n hv0lp5_6 (by omega) (by omega)) (by first | exact tgW_y hv1lp5_6 hv0lp5_6 (by omega) (by omega) qx21 qx22 hH hL po0_r28 po1_r28 po1_r36 | exact tgW_n hv1lp5_6 (by omega) (by omega)) (by first | exact tgR_y hv2lp5_6 hv0lp5_6 (by omega) (by omega) qx21 qx22 hH hL po0_r28 po2_r28 po2_r36 (by omega) | exact tgR_n hv2lp5_6 (by omega) (by omega)) (by first | exact zLo_d2 hv3lp5_6 po0_r28 po0_r36 (by omega) (by omega) (by omega) (by omega) (by omega) | exact zLo_m hv3lp5_6 (by omega)) (by omega) (by omega))
              · intro h56
                refine zw_push zr_80_105 ?_
                refine zw_42 zr_80_106 ?_
                refine zw_9 (L' := [(2, 55), (1, a0), (9, 0), (0, 1), (0, i2), (0, x21), (0, x22), (0, r28), (0, r36)]) zr_80_110 (Nat.le_of_ble_eq_true rfl) rfl ?_
                refine zw_15 (c := 1) (L' := [(2, 55), (1, a0), (9, 0), (0, 1), (0, (i2 + 1)), (0, x21), (0, x22), (0, r28), (0, r36)]) zr_80_111 rfl (by decide) (by omega) rfl ?_
                refine zw_42 zr_80_114 ?_
                exact zw_less (L := [(2, 55), (1, a0), (9, 0), (0, 1), (0, (i2 + 1)), (9, 0), (9, 0), (9, 0), (9, 0)]) ⟨Or.inr rfl, Or.inr rfl, Or.inl rfl, Or.inr rfl, Or.inr rfl, Or.inl rfl, Or.inl rfl, Or.inl rfl, Or.inl rfl, trivial⟩ (ihlp5_6 (1) ((i2 + 1)) (f37) (f38) m35 hIm35 hFm35  km35_1_1 fm35_6 fm35_7 fm35_56 fm35_57 fm35_58 fm35_59 (by omega) (by omega) (by omega) (by omega) (by first | exact tgD_y hv0lp5_6 (by omega) (by omega) qx21 qx22 hH hL po0_r28 po0_r36 | exact tgD_n hv0lp5_6 (by omega) (by omega)) (by first | exact tgW_y hv1lp5_6 hv0lp5_6 (by omega) (by omega) qx21 qx22 hH hL po0_r28 po1_r28 po1_r36 | exact tgW_n hv1lp5_6 (by omega) (by omega)) (by first | exact tgR_y hv2lp5_6 hv0lp5_6 (by omega) (by omega) qx21 qx22 hH hL po0_r28 po2_r28 po2_r36 (by omega) | exact tgR_n hv2lp5_6 (by omega) (by omega)) (by first | exact zLo_d2 hv3lp5_6 po0_r28 po0_r36 (by omega) (by omega) (by omega) (by omega) (by omega) | exact zLo_m hv3lp5_6 (by omega)) (by omega) (by omega))
  exact lp5_6 _ (0) (0) (F58) (F59) m0 hI0 hF0  hg0 hG6 hG7 hG56 hG57 hG58 hG59 (by omega) (by omega) (by omega) (by omega) (rfl) (rfl) (rfl) (zLo_m hp0 (by omega)) (by omega) (Nat.lt_succ_self _)

set_option maxHeartbeats 8000000 in
theorem th_81 {E : zE} {d : Nat} {m0 : zM} {a0 : Int} {F6 : Nat → Int} {F7 : Nat → Int} {F59 : Nat → Int} (hd : 2 ≤ d) (hI0 : zInv m0) (hG6 : m0 6 = F6) (hG7 : m0 7 = F7) (hG59 : m0 59 = F59) (ha0 : 0 ≤ a0 ∧ a0 ≤ 9) : zC E d 81 [(2, 55), (0, a0)] m0 (fun v m' => ∃ r : Int, v = (1, r) ∧ 0 ≤ r ∧ r ≤ 1152921504606846975 ∧ m0 = m' ∧ (zTh (zc6 F6) (zc6 F7) F59 a0.toNat r)) := by
  generalize hQ : (fun (v : zV) (m' : zM) => ∃ r : Int, v = (1, r) ∧ 0 ≤ r ∧ r ≤ 1152921504606846975 ∧ m0 = m' ∧ (zTh (zc6 F6) (zc6 F7) F59 a0.toNat r)) = Q
  show zW E d 81 0 [(2, 55), (0, a0), (9, 0), (9, 0), (9, 0), (9, 0)] [] m0 Q
  refine zw_push zr_81_0 ?_
  refine zw_13 (L' := [(2, 55), (0, a0), (1, 0), (9, 0), (9, 0), (9, 0)]) zr_81_1 (Nat.le_of_ble_eq_true rfl) rfl ?_
  refine zw_3 zr_81_2 rfl ?_
  refine zw_10 (L' := [(2, 55), (0, a0), (1, 0), (9, 0), (0, a0), (9, 0)]) zr_81_3 (Nat.le_of_ble_eq_true rfl) rfl ?_
  refine zw_push zr_81_5 ?_
  refine zw_10 (L' := [(2, 55), (0, a0), (1, 0), (9, 0), (0, a0), (0, 0)]) zr_81_6 (Nat.le_of_ble_eq_true rfl) rfl ?_
  have lp8_4 : ∀ (nlp8_4 : Nat) (i1 i2 i3 : Int), 0 ≤ i1 → i1 ≤ 1152921504606846975 → 0 ≤ i2 → i2 ≤ 9 → 0 ≤ i3 → i3 ≤ 10 → (zT1 (zc6 F6) (zc6 F7) F59 a0 i1 i2 i3) → (10 - i3).toNat < nlp8_4 → zW E (d) 81 8 [(2, 55), (0, a0), (1, i1), (9, 0), (0, i2), (0, i3)] [] m0 Q := by
    intro nlp8_4
    induction nlp8_4 with
    | zero =>
      intros
      exact absurd (by assumption : _ < 0) (Nat.not_lt_zero _)
    | succ nlp8_4 ihlp8_4 =>
      intro i1 i2 i3 li1 ui1 li2 ui2 li3 ui3 hv0lp8_4 hmlp8_4
      refine zw_4 zr_81_8 rfl ?_
      refine zw_push zr_81_10 ?_
      refine zw_41_3 zr_81_12 ?_ ?_
      · intro h6
        refine zw_5 zr_81_70 rfl ?_
        refine zw_R zr_81_71 (by decide) zm_81 (v := (1, i1)) rfl ?_
        rw [← hQ]; exact ⟨_, rfl, by omega, by omega, rfl, by first | exact zTh_c (zAB_c (fun i hi => by rw [← hG6]; exact ib_6 hI0 hi) (fun i hi => by rw [← hG7]; exact ib_7 hI0 hi)) hv0lp8_4 hY (by omega) ei1 hO (by omega) | exact zTh_e hv0lp8_4 (by omega) (by omega)⟩
      · intro h8
        refine zw_7 zr_81_15 rfl ?_
        refine zw_46r (s := 59) zr_81_16 rfl rfl rfl rfl ?_
        refine zw_4 zr_81_19 rfl ?_
        refine zw_48 (c := 59) (len := 10) zr_81_21 rfl rfl (by omega) (by omega) ?_
        intro x9 ex9
        have bx9 := ib_59 hI0 (k := (i2).toNat) (by omega)
        rw [← ex9] at bx9
        have qx9 : x9 = F59 (i2).toNat := by rw [← hG59]; exact ex9
        have hY := qx9
        refine zw_push zr_81_22 ?_
        refine zw_41_1 zr_81_23 ?_ ?_
        · intro h11
          refine zw_5 zr_81_70 rfl ?_
          refine zw_R zr_81_71 (by decide) zm_81 (v := (1, i1)) rfl ?_
          rw [← hQ]; exact ⟨_, rfl, by omega, by omega, rfl, by first | exact zTh_c (zAB_c (fun i hi => by rw [← hG6]; exact ib_6 hI0 hi) (fun i hi => by rw [← hG7]; exact ib_7 hI0 hi)) hv0lp8_4 hY (by omega) ei1 hO (by omega) | exact zTh_e hv0lp8_4 (by omega) (by omega)⟩
        · intro h13
          refine zw_5 zr_81_26 rfl ?_
          refine zw_push zr_81_27 ?_
          refine zw_7 zr_81_28 rfl ?_
          refine zw_46r (s := 59) zr_81_29 rfl rfl rfl rfl ?_
          refine zw_4 zr_81_32 rfl ?_
          refine zw_48k (c := 59) (len := 10) zr_81_34 rfl rfl (by omega) (by omega) rfl ex9.symm ?_
          refine zw_33q zr_81_35 (by omega) ?_
          intro x14 ex14 hx14a hx14b
          refine zw_31p (s := x9) zr_81_36 ex14 (by omega) (by omega) ?_
          intro x15 ex15 hx15a hx15b
          refine zw_13 (L' := [(2, 55), (0, a0), (1, x15), (9, 0), (0, i2), (0, i3)]) zr_81_37 (Nat.le_of_ble_eq_true rfl) rfl ?_
          refine zw_7 zr_81_38 rfl ?_
          refine zw_46r (s := 1) zr_81_39 rfl rfl rfl rfl ?_
          refine zw_7 zr_81_42 rfl ?_
          refine zw_46r (s := 59) zr_81_43 rfl rfl rfl rfl ?_
          refine zw_4 zr_81_46 rfl ?_
          refine zw_48k (c := 59) (len := 10) zr_81_48 rfl rfl (by omega) (by omega) rfl ex9.symm ?_
          refine zw_4 zr_81_49 rfl ?_
          refine zw_C zr_81_51 (Or.inl rfl) zm_54 rfl rfl ⟨Nat.le_of_ble_eq_true rfl, Nat.le_of_ble_eq_true rfl, Nat.le_of_ble_eq_true rfl, rfl, by decide⟩ (by omega) (P := (fun v m' => zW E (d) 81 54 [(2, 55), (0, a0), (1, x15), (9, 0), (0, i2), (0, i3)] (if v.1 = 9 then [] else v :: []) m' Q)) ?_ (fun _ _ h => h)
          generalize hQ1 : (fun v m' => zW E (d) 81 54 [(2, 55), (0, a0), (1, x15), (9, 0), (0, i2), (0, i3)] (if v.1 = 9 then [] else v :: []) m' Q) = Q1
          show zW E (d - 1) 54 0 [(2, 1), (0, x9), (0, i2)] [] m0 Q1
          refine zw_7 zr_54_0 rfl ?_
          refine zw_46r (s := 6) zr_54_1 rfl rfl rfl rfl ?_
          refine zw_3 zr_54_4 rfl ?_
          refine zw_48 (c := 6) (len := 60) zr_54_5 rfl rfl (by omega) (by omega) ?_
          intro x16 ex16
          have bx16 := ib_6 hI0 (k := (x9).toNat) (by omega)
          rw [← ex16] at bx16
          have qx16 : x16 = F6 (x9).toNat := by rw [← hG6]; exact ex16
          refine zw_3 zr_54_6 rfl ?_
          refine zw_41_4 zr_54_7 ?_ ?_
          · intro h17
            refine zw_7 zr_54_19 rfl ?_
            refine zw_46r (s := 6) zr_54_20 rfl rfl rfl rfl ?_
            refine zw_3 zr_54_23 rfl ?_
            refine zw_48k (c := 6) (len := 60) zr_54_24 rfl rfl (by omega) (by omega) rfl ex16.symm ?_
            refine zw_R zr_54_25 (by decide) zm_54 (v := (0, x16)) rfl ?_
            rw [← hQ1]
            show zW E (d) 81 54 [(2, 55), (0, a0), (1, x15), (9, 0), (0, i2), (0, i3)] [(0, x16)] m0 Q
            have hO := zOv_c (f := F6) (g := F7) (y := x9) (q := i2) (q2 := x16) (by omega) qx16 (by omega)
            refine zw_10 (L' := [(2, 55), (0, a0), (1, x15), (9, 0), (0, x16), (0, i3)]) zr_81_54 (Nat.le_of_ble_eq_true rfl) rfl ?_
            refine zw_4 zr_81_56 rfl ?_
            refine zw_3 zr_81_58 rfl ?_
            refine zw_41_4 zr_81_59 ?_ ?_
            · intro h19
              refine zw_15 (c := 1) (L' := [(2, 55), (0, a0), (1, x15), (9, 0), (0, x16), (0, (i3 + 1))]) zr_81_64 rfl (by decide) (by omega) rfl ?_
              refine zw_42 zr_81_67 ?_
              exact zw_less (L := [(2, 55), (0, a0), (1, x15), (9, 0), (0, x16), (0, (i3 + 1))]) ⟨Or.inr rfl, Or.inr rfl, Or.inr rfl, Or.inl rfl, Or.inr rfl, Or.inr rfl, trivial⟩ (ihlp8_4 (x15) (x16) ((i3 + 1))  (by omega) (by omega) (by omega) (by omega) (by omega) (by omega) (zT1_s (zAB_c (fun i hi => by rw [← hG6]; exact ib_6 hI0 hi) (fun i hi => by rw [← hG7]; exact ib_7 hI0 hi)) hv0lp8_4 hY (by omega) ex15 hO (by omega) (by omega)) (by omega))
            · intro h21
              refine zw_5 zr_81_62 rfl ?_
              refine zw_R zr_81_63 (by decide) zm_81 (v := (1, x15)) rfl ?_
              rw [← hQ]; exact ⟨_, rfl, by omega, by omega, rfl, by first | exact zTh_c (zAB_c (fun i hi => by rw [← hG6]; exact ib_6 hI0 hi) (fun i hi => by rw [← hG7]; exact ib_7 hI0 hi)) hv0lp8_4 hY (by omega) ex15 hO (by omega) | exact zTh_e hv0lp8_4 (by omega) (by omega)⟩
          · intro h23
            refine zw_7 zr_54_10 rfl ?_
            refine zw_46r (s := 7) zr_54_11 rfl rfl rfl rfl ?_
            refine zw_3 zr_54_14 rfl ?_
            refine zw_48 (c := 7) (len := 60) zr_54_15 rfl rfl (by omega) (by omega) ?_
            intro x24 ex24
            have bx24 := ib_7 hI0 (k := (x9).toNat) (by omega)
            rw [← ex24] at bx24
            have qx24 : x24 = F7 (x9).toNat := by rw [← hG7]; exact ex24
            clear ex24
            refine zw_42 zr_54_16 ?_
            refine zw_R zr_54_25 (by decide) zm_54 (v := (0, x24)) rfl ?_
            rw [← hQ1]
            show zW E (d) 81 54 [(2, 55), (0, a0), (1, x15), (9, 0), (0, i2), (0, i3)] [(0, x24)] m0 Q
            have hO := zOv_c (f := F6) (g := F7) (y := x9) (q := i2) (q2 := x24) (by omega) qx16 (by omega)
            refine zw_10 (L' := [(2, 55), (0, a0), (1, x15), (9, 0), (0, x24), (0, i3)]) zr_81_54 (Nat.le_of_ble_eq_true rfl) rfl ?_
            refine zw_4 zr_81_56 rfl ?_
            refine zw_3 zr_81_58 rfl ?_
            refine zw_41_4 zr_81_59 ?_ ?_
            · intro h26
              refine zw_15 (c := 1) (L' := [(2, 55), (0, a0), (1, x15), (9, 0), (0, x24), (0, (i3 + 1))]) zr_81_64 rfl (by decide) (by omega) rfl ?_
              refine zw_42 zr_81_67 ?_
              exact zw_less (L := [(2, 55), (0, a0), (1, x15), (9, 0), (0, x24), (0, (i3 + 1))]) ⟨Or.inr rfl, Or.inr rfl, Or.inr rfl, Or.inl rfl, Or.inr rfl, Or.inr rfl, trivial⟩ (ihlp8_4 (x15) (x24) ((i3 + 1))  (by omega) (by omega) (by omega) (by omega) (by omega) (by omega) (zT1_s (zAB_c (fun i hi => by rw [← hG6]; exact ib_6 hI0 hi) (fun i hi => by rw [← hG7]; exact ib_7 hI0 hi)) hv0lp8_4 hY (by omega) ex15 hO (by omega) (by omega)) (by omega))
            · intro h28
              refine zw_5 zr_81_62 rfl ?_
              refine zw_R zr_81_63 (by decide) zm_81 (v := (1, x15)) rfl ?_
              rw [← hQ]; exact ⟨_, rfl, by omega, by omega, rfl, by first | exact zTh_c (zAB_c (fun i hi => by rw [← hG6]; exact ib_6 hI0 hi) (fun i hi => by rw [← hG7]; exact ib_7 hI0 hi)) hv0lp8_4 hY (by omega) ex15 hO (by omega) | exact zTh_e hv0lp8_4 (by omega) (by omega)⟩
  exact lp8_4 _ (0) (a0) (0)  (by omega) (by omega) (by omega) (by omega) (by omega) (by omega) (zT1_0 (by omega)) (Nat.lt_succ_self _)

set_option maxHeartbeats 8000000 in
theorem th_82 {E : zE} {d : Nat} {m0 : zM} {g0 : Int} {F6 : Nat → Int} {F7 : Nat → Int} {F59 : Nat → Int} (hd : 3 ≤ d) (hI0 : zInv m0) (hg0 : m0 1 0 = g0) (hG6 : m0 6 = F6) (hG7 : m0 7 = F7) (hG59 : m0 59 = F59) : zC E d 82 [(2, 55)] m0 (fun v m' => ∃ r : Int, v = (1, r) ∧ 0 ≤ r ∧ r ≤ 1152921504606846975 ∧ m0 = m' ∧ (zVi (zc6 F6) (zc6 F7) F59 g0 r)) := by
  have bg0 := ib_1_0 hI0
  rw [hg0] at bg0
  generalize hQ : (fun (v : zV) (m' : zM) => ∃ r : Int, v = (1, r) ∧ 0 ≤ r ∧ r ≤ 1152921504606846975 ∧ m0 = m' ∧ (zVi (zc6 F6) (zc6 F7) F59 g0 r)) = Q
  show zW E d 82 0 [(2, 55), (9, 0), (9, 0), (9, 0)] [] m0 Q
  refine zw_push zr_82_0 ?_
  refine zw_9 (L' := [(2, 55), (0, 0), (9, 0), (9, 0)]) zr_82_1 (Nat.le_of_ble_eq_true rfl) rfl ?_
  have lp2_2 : ∀ (nlp2_2 : Nat) (i1 : Int), 0 ≤ i1 → i1 ≤ 10 → (zV2 (zc6 F6) (zc6 F7) F59 i1) → (i1 ≤ g0) → (10 - i1).toNat < nlp2_2 → zW E (d) 82 2 [(2, 55), (0, i1), (9, 0), (9, 0)] [] m0 Q := by
    intro nlp2_2
    induction nlp2_2 with
    | zero =>
      intros
      exact absurd (by assumption : _ < 0) (Nat.not_lt_zero _)
    | succ nlp2_2 ihlp2_2 =>
      intro i1 li1 ui1 hv0lp2_2 hv1lp2_2 hmlp2_2
      refine zw_3 zr_82_2 rfl ?_
      refine zw_7 zr_82_3 rfl ?_
      refine zw_46r (s := 1) zr_82_4 rfl rfl rfl rfl ?_
      refine zw_46i zr_82_7 hg0 rfl rfl rfl ?_
      refine zw_41_3 zr_82_10 ?_ ?_
      · intro h4
        refine zw_push zr_82_76 ?_
        refine zw_R zr_82_77 (by decide) zm_82 (v := (1, 0)) rfl ?_
        rw [← hQ]; exact ⟨_, rfl, by omega, by omega, rfl, by first | exact Or.inr (zVi_c (zAB_c (fun i hi => by rw [← hG6]; exact ib_6 hI0 hi) (fun i hi => by rw [← hG7]; exact ib_7 hI0 hi)) zz hZ (by omega) (by omega) zz) | exact Or.inl ⟨rfl, by have z := hv0lp2_2; rw [show i1 = g0 by omega] at z; exact z⟩⟩
      · intro h6
        refine zw_3 zr_82_13 rfl ?_
        refine zw_9 (L' := [(2, 55), (0, i1), (0, i1), (9, 0)]) zr_82_14 (Nat.le_of_ble_eq_true rfl) rfl ?_
        refine zw_push zr_82_15 ?_
        refine zw_9 (L' := [(2, 55), (0, i1), (0, i1), (0, 0)]) zr_82_16 (Nat.le_of_ble_eq_true rfl) rfl ?_
        have lp17_9 : ∀ (nlp17_9 : Nat) (i7 i8 : Int), 0 ≤ i7 → i7 ≤ 9 → 0 ≤ i8 → i8 ≤ 10 → (zV1 (zc6 F6) (zc6 F7) F59 i1 i7 i8) → (10 - i8).toNat < nlp17_9 → zW E (d) 82 17 [(2, 55), (0, i1), (0, i7), (0, i8)] [] m0 Q := by
          intro nlp17_9
          induction nlp17_9 with
          | zero =>
            intros
            exact absurd (by assumption : _ < 0) (Nat.not_lt_zero _)
          | succ nlp17_9 ihlp17_9 =>
            intro i7 i8 li7 ui7 li8 ui8 hv0lp17_9 hmlp17_9
            refine zw_3 zr_82_17 rfl ?_
            refine zw_push zr_82_18 ?_
            refine zw_41_3 zr_82_20 ?_ ?_
            · intro h11
              refine zw_7 zr_82_54 rfl ?_
              refine zw_46r (s := 59) zr_82_55 rfl rfl rfl rfl ?_
              refine zw_3 zr_82_58 rfl ?_
              refine zw_48 (c := 59) (len := 10) zr_82_59 rfl rfl (by omega) (by omega) ?_
              intro x12 ex12
              have bx12 := ib_59 hI0 (k := (i7).toNat) (by omega)
              rw [← ex12] at bx12
              have qx12 : x12 = F59 (i7).toNat := by rw [← hG59]; exact ex12
              clear ex12
              have hZ := qx12
              refine zw_push zr_82_60 ?_
              refine zw_41_1 zr_82_61 ?_ ?_
              · intro h14
                refine zw_15 (c := 1) (L' := [(2, 55), (0, (i1 + 1)), (0, i7), (0, i8)]) zr_82_70 rfl (by decide) (by omega) rfl ?_
                refine zw_42 zr_82_73 ?_
                exact zw_less (L := [(2, 55), (0, (i1 + 1)), (9, 0), (9, 0)]) ⟨Or.inr rfl, Or.inr rfl, Or.inl rfl, Or.inl rfl, trivial⟩ (ihlp2_2 ((i1 + 1))  (by omega) (by omega) (zV2_s hv0lp2_2 hv0lp17_9 (by omega) hZ (by omega)) (by omega) (by omega))
              · intro h16
                refine zw_7 zr_82_64 rfl ?_
                refine zw_3 zr_82_65 rfl ?_
                refine zw_C zr_82_66 (Or.inl rfl) zm_81 rfl rfl ⟨Nat.le_of_ble_eq_true rfl, Nat.le_of_ble_eq_true rfl, Nat.le_of_ble_eq_true rfl, rfl, by decide⟩ (by omega) (th_81 (d := d - 1) (by omega) hI0 (a0 := i7)   (F6 := F6) (F7 := F7) (F59 := F59)  hG6 hG7 hG59 (by omega) ) ?_
                rintro _ _ ⟨r17, rfl, hr17a, hr17b, rfl, po0_r17⟩
                show zW E (d) 82 69 [(2, 55), (0, i1), (0, i7), (0, i8)] [(1, r17)] m0 Q
                refine zw_R zr_82_69 (by decide) zm_82 (v := (1, r17)) rfl ?_
                rw [← hQ]; exact ⟨_, rfl, by omega, by omega, rfl, by first | exact Or.inr (zVi_c (zAB_c (fun i hi => by rw [← hG6]; exact ib_6 hI0 hi) (fun i hi => by rw [← hG7]; exact ib_7 hI0 hi)) hv0lp17_9 hZ (by omega) (by omega) po0_r17) | exact Or.inl ⟨rfl, by have z := hv0lp2_2; rw [show i1 = g0 by omega] at z; exact z⟩⟩
            · intro h19
              refine zw_7 zr_82_23 rfl ?_
              refine zw_46r (s := 59) zr_82_24 rfl rfl rfl rfl ?_
              refine zw_3 zr_82_27 rfl ?_
              refine zw_48 (c := 59) (len := 10) zr_82_28 rfl rfl (by omega) (by omega) ?_
              intro x20 ex20
              have bx20 := ib_59 hI0 (k := (i7).toNat) (by omega)
              rw [← ex20] at bx20
              have qx20 : x20 = F59 (i7).toNat := by rw [← hG59]; exact ex20
              have hY := qx20
              refine zw_push zr_82_29 ?_
              refine zw_41_1 zr_82_30 ?_ ?_
              · intro h22
                refine zw_7 zr_82_54 rfl ?_
                refine zw_46r (s := 59) zr_82_55 rfl rfl rfl rfl ?_
                refine zw_3 zr_82_58 rfl ?_
                refine zw_48k (c := 59) (len := 10) zr_82_59 rfl rfl (by omega) (by omega) rfl ex20.symm ?_
                have hZ := qx20
                refine zw_push zr_82_60 ?_
                refine zw_41_1 zr_82_61 ?_ ?_
                · intro h24
                  refine zw_15 (c := 1) (L' := [(2, 55), (0, (i1 + 1)), (0, i7), (0, i8)]) zr_82_70 rfl (by decide) (by omega) rfl ?_
                  refine zw_42 zr_82_73 ?_
                  exact zw_less (L := [(2, 55), (0, (i1 + 1)), (9, 0), (9, 0)]) ⟨Or.inr rfl, Or.inr rfl, Or.inl rfl, Or.inl rfl, trivial⟩ (ihlp2_2 ((i1 + 1))  (by omega) (by omega) (zV2_s hv0lp2_2 hv0lp17_9 (by omega) hZ (by omega)) (by omega) (by omega))
                · intro h26; omega
              · intro h27
                refine zw_7 zr_82_33 rfl ?_
                refine zw_46r (s := 1) zr_82_34 rfl rfl rfl rfl ?_
                refine zw_7 zr_82_37 rfl ?_
                refine zw_46r (s := 59) zr_82_38 rfl rfl rfl rfl ?_
                refine zw_3 zr_82_41 rfl ?_
                refine zw_48k (c := 59) (len := 10) zr_82_42 rfl rfl (by omega) (by omega) rfl ex20.symm ?_
                refine zw_3 zr_82_43 rfl ?_
                refine zw_C zr_82_44 (Or.inl rfl) zm_54 rfl rfl ⟨Nat.le_of_ble_eq_true rfl, Nat.le_of_ble_eq_true rfl, Nat.le_of_ble_eq_true rfl, rfl, by decide⟩ (by omega) (P := (fun v m' => zW E (d) 82 47 [(2, 55), (0, i1), (0, i7), (0, i8)] (if v.1 = 9 then [] else v :: []) m' Q)) ?_ (fun _ _ h => h)
                generalize hQ1 : (fun v m' => zW E (d) 82 47 [(2, 55), (0, i1), (0, i7), (0, i8)] (if v.1 = 9 then [] else v :: []) m' Q) = Q1
                show zW E (d - 1) 54 0 [(2, 1), (0, x20), (0, i7)] [] m0 Q1
                refine zw_7 zr_54_0 rfl ?_
                refine zw_46r (s := 6) zr_54_1 rfl rfl rfl rfl ?_
                refine zw_3 zr_54_4 rfl ?_
                refine zw_48 (c := 6) (len := 60) zr_54_5 rfl rfl (by omega) (by omega) ?_
                intro x28 ex28
                have bx28 := ib_6 hI0 (k := (x20).toNat) (by omega)
                rw [← ex28] at bx28
                have qx28 : x28 = F6 (x20).toNat := by rw [← hG6]; exact ex28
                refine zw_3 zr_54_6 rfl ?_
                refine zw_41_4 zr_54_7 ?_ ?_
                · intro h29
                  refine zw_7 zr_54_19 rfl ?_
                  refine zw_46r (s := 6) zr_54_20 rfl rfl rfl rfl ?_
                  refine zw_3 zr_54_23 rfl ?_
                  refine zw_48k (c := 6) (len := 60) zr_54_24 rfl rfl (by omega) (by omega) rfl ex28.symm ?_
                  refine zw_R zr_54_25 (by decide) zm_54 (v := (0, x28)) rfl ?_
                  rw [← hQ1]
                  show zW E (d) 82 47 [(2, 55), (0, i1), (0, i7), (0, i8)] [(0, x28)] m0 Q
                  have hO := zOv_c (f := F6) (g := F7) (y := x20) (q := i7) (q2 := x28) (by omega) qx28 (by omega)
                  refine zw_9 (L' := [(2, 55), (0, i1), (0, x28), (0, i8)]) zr_82_47 (Nat.le_of_ble_eq_true rfl) rfl ?_
                  refine zw_15 (c := 1) (L' := [(2, 55), (0, i1), (0, x28), (0, (i8 + 1))]) zr_82_48 rfl (by decide) (by omega) rfl ?_
                  refine zw_42 zr_82_51 ?_
                  exact zw_less (L := [(2, 55), (0, i1), (0, x28), (0, (i8 + 1))]) ⟨Or.inr rfl, Or.inr rfl, Or.inr rfl, Or.inr rfl, trivial⟩ (ihlp17_9 (x28) ((i8 + 1))  (by omega) (by omega) (by omega) (by omega) (zV1_s (zAB_c (fun i hi => by rw [← hG6]; exact ib_6 hI0 hi) (fun i hi => by rw [← hG7]; exact ib_7 hI0 hi)) hv0lp17_9 hY (by omega) (by omega) hO) (by omega))
                · intro h32
                  refine zw_7 zr_54_10 rfl ?_
                  refine zw_46r (s := 7) zr_54_11 rfl rfl rfl rfl ?_
                  refine zw_3 zr_54_14 rfl ?_
                  refine zw_48 (c := 7) (len := 60) zr_54_15 rfl rfl (by omega) (by omega) ?_
                  intro x33 ex33
                  have bx33 := ib_7 hI0 (k := (x20).toNat) (by omega)
                  rw [← ex33] at bx33
                  have qx33 : x33 = F7 (x20).toNat := by rw [← hG7]; exact ex33
                  clear ex33
                  refine zw_42 zr_54_16 ?_
                  refine zw_R zr_54_25 (by decide) zm_54 (v := (0, x33)) rfl ?_
                  rw [← hQ1]
                  show zW E (d) 82 47 [(2, 55), (0, i1), (0, i7), (0, i8)] [(0, x33)] m0 Q
                  have hO := zOv_c (f := F6) (g := F7) (y := x20) (q := i7) (q2 := x33) (by omega) qx28 (by omega)
                  refine zw_9 (L' := [(2, 55), (0, i1), (0, x33), (0, i8)]) zr_82_47 (Nat.le_of_ble_eq_true rfl) rfl ?_
                  refine zw_15 (c := 1) (L' := [(2, 55), (0, i1), (0, x33), (0, (i8 + 1))]) zr_82_48 rfl (by decide) (by omega) rfl ?_
                  refine zw_42 zr_82_51 ?_
                  exact zw_less (L := [(2, 55), (0, i1), (0, x33), (0, (i8 + 1))]) ⟨Or.inr rfl, Or.inr rfl, Or.inr rfl, Or.inr rfl, trivial⟩ (ihlp17_9 (x33) ((i8 + 1))  (by omega) (by omega) (by omega) (by omega) (zV1_s (zAB_c (fun i hi => by rw [← hG6]; exact ib_6 hI0 hi) (fun i hi => by rw [← hG7]; exact ib_7 hI0 hi)) hv0lp17_9 hY (by omega) (by omega) hO) (by omega))
        exact lp17_9 _ (i1) (0)  (by omega) (by omega) (by omega) (by omega) (zV1_0 (by omega)) (Nat.lt_succ_self _)
  exact lp2_2 _ (0)  (by omega) (by omega) (zV2_0) (by omega) (Nat.lt_succ_self _)

abbrev W_83 : List (Nat × Nat) := [(58, 1000), (59, 1000)]
set_option maxHeartbeats 8000000 in
theorem th_83 {E : zE} {d : Nat} {m0 : zM} {a0 : Int} {g0 : Int} {g1 : Int} {F6 : Nat → Int} {F7 : Nat → Int} {F56 : Nat → Int} {F57 : Nat → Int} {F58 : Nat → Int} {F59 : Nat → Int} (hd : 4 ≤ d) (hI0 : zInv m0) (hg0 : m0 1 0 = g0) (hg1 : m0 1 1 = g1) (hG6 : m0 6 = F6) (hG7 : m0 7 = F7) (hG56 : m0 56 = F56) (hG57 : m0 57 = F57) (hG58 : m0 58 = F58) (hG59 : m0 59 = F59) (ha0 : 0 ≤ a0 ∧ a0 ≤ 1152921504606846975) (hp0 : zPl F6 F7 g1 g0) : zC E d 83 [(2, 55), (1, a0)] m0 (fun v m' => ∃ r : Int, v = (1, r) ∧ 0 ≤ r ∧ r ≤ 1152921504606846975 ∧ zInv m' ∧ zFr W_83 m0 m' ∧ (zRq (zc6 F6) (zc6 F7) F56 F57 g1 a0 r)) := by
  have hF0 : zFr W_83 m0 m0 := zFr.rfl
  have bg0 := ib_1_0 hI0
  rw [hg0] at bg0
  have bg1 := ib_1_1 hI0
  rw [hg1] at bg1
  generalize hQ : (fun (v : zV) (m' : zM) => ∃ r : Int, v = (1, r) ∧ 0 ≤ r ∧ r ≤ 1152921504606846975 ∧ zInv m' ∧ zFr W_83 m0 m' ∧ (zRq (zc6 F6) (zc6 F7) F56 F57 g1 a0 r)) = Q
  show zW E d 83 0 [(2, 55), (1, a0), (9, 0), (9, 0), (9, 0), (9, 0)] [] m0 Q
  refine zw_7 zr_83_0 rfl ?_
  refine zw_46r (s := 58) zr_83_1 rfl rfl rfl rfl ?_
  refine zw_push zr_83_4 ?_
  refine zw_C zr_83_5 (Or.inr rfl) zm_4 rfl rfl ⟨Nat.le_of_ble_eq_true rfl, Nat.le_of_ble_eq_true rfl, Nat.le_of_ble_eq_true rfl, rfl, by decide⟩ (by omega) (th_4_58 (d := d - 1) (by omega) hI0 (a0 := 0)   (F58 := F58)  hG58 (by omega) ) ?_
  rintro _ m1 ⟨rfl, hIm1, gm1, po0_m1⟩
  have hFm1 : zFr W_83 m0 m1 := hF0.trans gm1 rfl
  have km1_1_0 : m1 1 0 = g0 := (gm1 1 0 rfl).trans hg0
  have km1_1_1 : m1 1 1 = g1 := (gm1 1 1 rfl).trans hg1
  have fm1_6 : m1 6 = F6 := (funext fun k => gm1 6 k rfl).trans hG6
  have fm1_7 : m1 7 = F7 := (funext fun k => gm1 7 k rfl).trans hG7
  have fm1_56 : m1 56 = F56 := (funext fun k => gm1 56 k rfl).trans hG56
  have fm1_57 : m1 57 = F57 := (funext fun k => gm1 57 k rfl).trans hG57
  obtain ⟨f2, fm1_58⟩ : ∃ f, m1 58 = f := ⟨_, rfl⟩
  try rw [fm1_58] at po0_m1
  have fm1_59 : m1 59 = F59 := (funext fun k => gm1 59 k rfl).trans hG59
  show zW E (d) 83 8 [(2, 55), (1, a0), (9, 0), (9, 0), (9, 0), (9, 0)] [] m1 Q
  refine zw_7 zr_83_8 rfl ?_
  refine zw_46r (s := 59) zr_83_9 rfl rfl rfl rfl ?_
  refine zw_push zr_83_12 ?_
  refine zw_C zr_83_13 (Or.inr rfl) zm_4 rfl rfl ⟨Nat.le_of_ble_eq_true rfl, Nat.le_of_ble_eq_true rfl, Nat.le_of_ble_eq_true rfl, rfl, by decide⟩ (by omega) (th_4_59 (d := d - 1) (by omega) hIm1 (a0 := (-1))   (F59 := F59)  fm1_59 (by omega) ) ?_
  rintro _ m3 ⟨rfl, hIm3, gm3, po0_m3⟩
  have hFm3 : zFr W_83 m0 m3 := hFm1.trans gm3 rfl
  have km3_1_0 : m3 1 0 = g0 := (gm3 1 0 rfl).trans km1_1_0
  have km3_1_1 : m3 1 1 = g1 := (gm3 1 1 rfl).trans km1_1_1
  have fm3_6 : m3 6 = F6 := (funext fun k => gm3 6 k rfl).trans fm1_6
  have fm3_7 : m3 7 = F7 := (funext fun k => gm3 7 k rfl).trans fm1_7
  have fm3_56 : m3 56 = F56 := (funext fun k => gm3 56 k rfl).trans fm1_56
  have fm3_57 : m3 57 = F57 := (funext fun k => gm3 57 k rfl).trans fm1_57
  have fm3_58 : m3 58 = f2 := (funext fun k => gm3 58 k rfl).trans fm1_58
  obtain ⟨f4, fm3_59⟩ : ∃ f, m3 59 = f := ⟨_, rfl⟩
  try rw [fm3_59] at po0_m3
  show zW E (d) 83 16 [(2, 55), (1, a0), (9, 0), (9, 0), (9, 0), (9, 0)] [] m3 Q
  refine zw_push zr_83_16 ?_
  refine zw_9 (L' := [(2, 55), (1, a0), (9, 0), (0, 0), (9, 0), (9, 0)]) zr_83_17 (Nat.le_of_ble_eq_true rfl) rfl ?_
  have lp18_9 : ∀ (nlp18_9 : Nat) (i5 : Int) (f7 : Nat → Int) (f8 : Nat → Int) (m6 : zM), zInv m6 → zFr W_83 m0 m6 → m6 1 0 = g0 → m6 1 1 = g1 → m6 6 = F6 → m6 7 = F7 → m6 56 = F56 → m6 57 = F57 → m6 58 = f7 → m6 59 = f8 → 0 ≤ i5 → i5 ≤ 10 → (zQs (zc6 F6) (zc6 F7) F56 F57 g1 a0 (i5).toNat f7 f8) → (zD0 f7) → (zLo f7 (240000 * i5)) → (i5 = 0 ∨ zV2 (zc6 F6) (zc6 F7) f8 g0) → (10 - i5).toNat < nlp18_9 → zW E (d) 83 18 [(2, 55), (1, a0), (9, 0), (0, i5), (9, 0), (9, 0)] [] m6 Q := by
    intro nlp18_9
    induction nlp18_9 with
    | zero =>
      intros
      exact absurd (by assumption : _ < 0) (Nat.not_lt_zero _)
    | succ nlp18_9 ihlp18_9 =>
      intro i5 f7 f8 m6 hIm6 hFm6 km6_1_0 km6_1_1 fm6_6 fm6_7 fm6_56 fm6_57 fm6_58 fm6_59 li5 ui5 hv0lp18_9 hv1lp18_9 hv2lp18_9 hv3lp18_9 hmlp18_9
      refine zw_3 zr_83_18 rfl ?_
      refine zw_push zr_83_19 ?_
      refine zw_41_3 zr_83_21 ?_ ?_
      · intro h11
        refine zw_push zr_83_54 ?_
        refine zw_R zr_83_55 (by decide) zm_83 (v := (1, 0)) rfl ?_
        rw [← hQ]; exact ⟨_, rfl, by omega, by omega, hIm6, hFm6, by first | exact zRq_v (zAB_c (fun i hi => by rw [← hG6]; exact ib_6 hI0 hi) (fun i hi => by rw [← hG7]; exact ib_7 hI0 hi)) (zQs_t (zAB_c (fun i hi => by rw [← hG6]; exact ib_6 hI0 hi) (fun i hi => by rw [← hG7]; exact ib_7 hI0 hi)) hv0lp18_9 zz zz zz (by omega) (by omega)) zz (by omega) | exact zRq_f (zAB_c (fun i hi => by rw [← hG6]; exact ib_6 hI0 hi) (fun i hi => by rw [← hG7]; exact ib_7 hI0 hi)) hv1lp18_9 (by omega) (by rw [← zz]; omega) | (rcases hv3lp18_9 with z | z; omega; exact zRq_10 (zAB_c (fun i hi => by rw [← hG6]; exact ib_6 hI0 hi) (fun i hi => by rw [← hG7]; exact ib_7 hI0 hi)) hv0lp18_9 (by omega) z (fun j hj => by rw [zc6_lt (by omega), zc6_lt (by omega)]; have z := hp0 j (by omega) hj; exact ⟨z.1, z.2.1⟩))⟩
      · intro h13
        refine zw_7 zr_83_24 rfl ?_
        refine zw_5 zr_83_25 rfl ?_
        refine zw_C zr_83_26 (Or.inl rfl) zm_80 rfl rfl ⟨Nat.le_of_ble_eq_true rfl, Nat.le_of_ble_eq_true rfl, Nat.le_of_ble_eq_true rfl, rfl, by decide⟩ (by omega) (th_80 (d := d - 1) (by omega) hIm6 (a0 := a0) (g0 := g1) (gC := 240000 * i5) (F6 := F6) (F7 := F7) (F56 := F56) (F57 := F57) (F58 := f7) (F59 := f8) km6_1_1 fm6_6 fm6_7 fm6_56 fm6_57 fm6_58 fm6_59 (by omega) (hv2lp18_9) (by omega)) ?_
        rintro _ m16 ⟨r17, rfl, hr17a, hr17b, hIm16, gm16, po0_r17, po1_r17, po2_r17, po3_r17⟩
        have hFm16 : zFr W_83 m0 m16 := hFm6.trans gm16 rfl
        have km16_1_0 : m16 1 0 = g0 := (gm16 1 0 rfl).trans km6_1_0
        have km16_1_1 : m16 1 1 = g1 := (gm16 1 1 rfl).trans km6_1_1
        have fm16_6 : m16 6 = F6 := (funext fun k => gm16 6 k rfl).trans fm6_6
        have fm16_7 : m16 7 = F7 := (funext fun k => gm16 7 k rfl).trans fm6_7
        have fm16_56 : m16 56 = F56 := (funext fun k => gm16 56 k rfl).trans fm6_56
        have fm16_57 : m16 57 = F57 := (funext fun k => gm16 57 k rfl).trans fm6_57
        obtain ⟨f18, fm16_58⟩ : ∃ f, m16 58 = f := ⟨_, rfl⟩
        try rw [fm16_58] at po0_r17
        try rw [fm16_58] at po3_r17
        obtain ⟨f19, fm16_59⟩ : ∃ f, m16 59 = f := ⟨_, rfl⟩
        try rw [fm16_59] at po1_r17
        show zW E (d) 83 29 [(2, 55), (1, a0), (9, 0), (0, i5), (9, 0), (9, 0)] [(0, r17)] m16 Q
        refine zw_40_1 zr_83_29 ?_ ?_
        · intro h20
          refine zw_push zr_83_54 ?_
          refine zw_R zr_83_55 (by decide) zm_83 (v := (1, 0)) rfl ?_
          rw [← hQ]; exact ⟨_, rfl, by omega, by omega, hIm16, hFm16, by first | exact zRq_v (zAB_c (fun i hi => by rw [← hG6]; exact ib_6 hI0 hi) (fun i hi => by rw [← hG7]; exact ib_7 hI0 hi)) (zQs_t (zAB_c (fun i hi => by rw [← hG6]; exact ib_6 hI0 hi) (fun i hi => by rw [← hG7]; exact ib_7 hI0 hi)) hv0lp18_9 po0_r17 po1_r17 po2_r17 (by omega) (by omega)) zz (by omega) | exact zRq_f (zAB_c (fun i hi => by rw [← hG6]; exact ib_6 hI0 hi) (fun i hi => by rw [← hG7]; exact ib_7 hI0 hi)) hv1lp18_9 (by omega) (by rw [← po2_r17]; omega) | (rcases hv3lp18_9 with z | z; omega; exact zRq_10 (zAB_c (fun i hi => by rw [← hG6]; exact ib_6 hI0 hi) (fun i hi => by rw [← hG7]; exact ib_7 hI0 hi)) hv0lp18_9 (by omega) z (fun j hj => by rw [zc6_lt (by omega), zc6_lt (by omega)]; have z := hp0 j (by omega) hj; exact ⟨z.1, z.2.1⟩))⟩
        · intro h22
          refine zw_7 zr_83_32 rfl ?_
          refine zw_C zr_83_33 (Or.inl rfl) zm_82 rfl rfl ⟨Nat.le_of_ble_eq_true rfl, Nat.le_of_ble_eq_true rfl, Nat.le_of_ble_eq_true rfl, rfl, by decide⟩ (by omega) (th_82 (d := d - 1) (by omega) hIm16  (g0 := g0)  (F6 := F6) (F7 := F7) (F59 := f19) km16_1_0 fm16_6 fm16_7 fm16_59  ) ?_
          rintro _ _ ⟨r23, rfl, hr23a, hr23b, rfl, po0_r23⟩
          show zW E (d) 83 36 [(2, 55), (1, a0), (9, 0), (0, i5), (9, 0), (9, 0)] [(1, r23)] m16 Q
          refine zw_14 (L' := [(2, 55), (1, a0), (9, 0), (0, i5), (1, r23), (9, 0)]) zr_83_36 (Nat.le_of_ble_eq_true rfl) rfl ?_
          refine zw_6 zr_83_38 rfl ?_
          refine zw_push zr_83_40 ?_
          refine zw_39_1 zr_83_41 zr_83_42 ?_ ?_
          · intro h24
            refine zw_15 (c := 1) (L' := [(2, 55), (1, a0), (9, 0), (0, (i5 + 1)), (1, r23), (9, 0)]) zr_83_48 rfl (by decide) (by omega) rfl ?_
            refine zw_42 zr_83_51 ?_
            exact zw_less (L := [(2, 55), (1, a0), (9, 0), (0, (i5 + 1)), (9, 0), (9, 0)]) ⟨Or.inr rfl, Or.inr rfl, Or.inl rfl, Or.inr rfl, Or.inl rfl, Or.inl rfl, trivial⟩ (ihlp18_9 ((i5 + 1)) (f18) (f19) m16 hIm16 hFm16  km16_1_0 km16_1_1 fm16_6 fm16_7 fm16_56 fm16_57 fm16_58 fm16_59 (by omega) (by omega) ((zQs_t (zAB_c (fun i hi => by rw [← hG6]; exact ib_6 hI0 hi) (fun i hi => by rw [← hG7]; exact ib_7 hI0 hi)) hv0lp18_9 po0_r17 po1_r17 po2_r17 (by omega) (by omega))) (by rw [po0_r17]; exact zD0_t hv1lp18_9) (zLo_m po3_r17 (by omega)) (Or.inr (zVi_z (zAB_c (fun i hi => by rw [← hG6]; exact ib_6 hI0 hi) (fun i hi => by rw [← hG7]; exact ib_7 hI0 hi)) (zQs_t (zAB_c (fun i hi => by rw [← hG6]; exact ib_6 hI0 hi) (fun i hi => by rw [← hG7]; exact ib_7 hI0 hi)) hv0lp18_9 po0_r17 po1_r17 po2_r17 (by omega) (by omega)) po0_r23 (by omega))) (by omega))
          · intro h29
            refine zw_6 zr_83_45 rfl ?_
            refine zw_R zr_83_47 (by decide) zm_83 (v := (1, r23)) rfl ?_
            rw [← hQ]; exact ⟨_, rfl, by omega, by omega, hIm16, hFm16, by first | exact zRq_v (zAB_c (fun i hi => by rw [← hG6]; exact ib_6 hI0 hi) (fun i hi => by rw [← hG7]; exact ib_7 hI0 hi)) (zQs_t (zAB_c (fun i hi => by rw [← hG6]; exact ib_6 hI0 hi) (fun i hi => by rw [← hG7]; exact ib_7 hI0 hi)) hv0lp18_9 po0_r17 po1_r17 po2_r17 (by omega) (by omega)) po0_r23 (by omega) | exact zRq_f (zAB_c (fun i hi => by rw [← hG6]; exact ib_6 hI0 hi) (fun i hi => by rw [← hG7]; exact ib_7 hI0 hi)) hv1lp18_9 (by omega) (by rw [← po2_r17]; omega) | (rcases hv3lp18_9 with z | z; omega; exact zRq_10 (zAB_c (fun i hi => by rw [← hG6]; exact ib_6 hI0 hi) (fun i hi => by rw [← hG7]; exact ib_7 hI0 hi)) hv0lp18_9 (by omega) z (fun j hj => by rw [zc6_lt (by omega), zc6_lt (by omega)]; have z := hp0 j (by omega) hj; exact ⟨z.1, z.2.1⟩))⟩
  exact lp18_9 _ (0) (f2) (f4) m3 hIm3 hFm3  km3_1_0 km3_1_1 fm3_6 fm3_7 fm3_56 fm3_57 fm3_58 fm3_59 (by omega) (by omega) (zQs_0 (fun v hv => po0_m3 v (by omega))) (fun v hv => by have z := po0_m1 v (by omega); omega) (fun v hv => by have z := po0_m1 v (by omega); omega) (Or.inl rfl) (Nat.lt_succ_self _)

abbrev W_84 : List (Nat × Nat) := [(56, 1000), (57, 1000), (58, 1000), (59, 1000)]
set_option maxHeartbeats 8000000 in
theorem th_84 {E : zE} {d : Nat} {m0 : zM} {g0 : Int} {g1 : Int} {g2 : Int} {g3 : Int} {g4 : Int} {g5 : Int} {F2 : Nat → Int} {F5 : Nat → Int} {F6 : Nat → Int} {F7 : Nat → Int} {F8 : Nat → Int} {F12 : Nat → Int} (hd : 5 ≤ d) (hI0 : zInv m0) (hg0 : m0 1 0 = g0) (hg1 : m0 1 1 = g1) (hg2 : m0 1 2 = g2) (hg3 : m0 1 3 = g3) (hg4 : m0 1 4 = g4) (hg5 : m0 1 5 = g5) (hG2 : m0 2 = F2) (hG5 : m0 5 = F5) (hG6 : m0 6 = F6) (hG7 : m0 7 = F7) (hG8 : m0 8 = F8) (hG12 : m0 12 = F12) (hp0 : zPl F6 F7 g1 g0) : zC E d 84 [(2, 55)] m0 (fun v m' => ∃ r : Int, v = (0, r) ∧ 0 ≤ r ∧ r ≤ 1 ∧ zInv m' ∧ zFr W_84 m0 m' ∧ (zAg2 (zEk F5 F6 F7 F8 F2 F12 g4 g5 (zSa g2 g3 g1)) r)) := by
  have hF0 : zFr W_84 m0 m0 := zFr.rfl
  have bg0 := ib_1_0 hI0
  rw [hg0] at bg0
  have bg1 := ib_1_1 hI0
  rw [hg1] at bg1
  have bg2 := ib_1_2 hI0
  rw [hg2] at bg2
  have bg3 := ib_1_3 hI0
  rw [hg3] at bg3
  have bg4 := ib_1_4 hI0
  rw [hg4] at bg4
  have bg5 := ib_1_5 hI0
  rw [hg5] at bg5
  generalize hQ : (fun (v : zV) (m' : zM) => ∃ r : Int, v = (0, r) ∧ 0 ≤ r ∧ r ≤ 1 ∧ zInv m' ∧ zFr W_84 m0 m' ∧ (zAg2 (zEk F5 F6 F7 F8 F2 F12 g4 g5 (zSa g2 g3 g1)) r)) = Q
  show zW E d 84 0 [(2, 55)] [] m0 Q
  refine zw_7 zr_84_0 rfl ?_
  refine zw_C zr_84_1 (Or.inl rfl) zm_78 rfl rfl ⟨Nat.le_of_ble_eq_true rfl, Nat.le_of_ble_eq_true rfl, Nat.le_of_ble_eq_true rfl, rfl, by decide⟩ (by omega) (th_78 (d := d - 1) (by omega) hI0  (g0 := g1) (g1 := g4) (g2 := g5)  (F2 := F2) (F5 := F5) (F6 := F6) (F7 := F7) (F8 := F8) (F12 := F12) (F56 := m0 56) (F57 := m0 57) hg1 hg4 hg5 hG2 hG5 hG6 hG7 hG8 hG12 rfl rfl  ) ?_
  rintro _ m1 ⟨rfl, hIm1, gm1, po0_m1⟩
  have hFm1 : zFr W_84 m0 m1 := hF0.trans gm1 rfl
  have km1_1_0 : m1 1 0 = g0 := (gm1 1 0 rfl).trans hg0
  have km1_1_1 : m1 1 1 = g1 := (gm1 1 1 rfl).trans hg1
  have km1_1_2 : m1 1 2 = g2 := (gm1 1 2 rfl).trans hg2
  have km1_1_3 : m1 1 3 = g3 := (gm1 1 3 rfl).trans hg3
  have km1_1_4 : m1 1 4 = g4 := (gm1 1 4 rfl).trans hg4
  have km1_1_5 : m1 1 5 = g5 := (gm1 1 5 rfl).trans hg5
  have fm1_2 : m1 2 = F2 := (funext fun k => gm1 2 k rfl).trans hG2
  have fm1_5 : m1 5 = F5 := (funext fun k => gm1 5 k rfl).trans hG5
  have fm1_6 : m1 6 = F6 := (funext fun k => gm1 6 k rfl).trans hG6
  have fm1_7 : m1 7 = F7 := (funext fun k => gm1 7 k rfl).trans hG7
  have fm1_8 : m1 8 = F8 := (funext fun k => gm1 8 k rfl).trans hG8
  have fm1_12 : m1 12 = F12 := (funext fun k => gm1 12 k rfl).trans hG12
  show zW E (d) 84 4 [(2, 55)] [] m1 Q
  refine zw_7 zr_84_4 rfl ?_
  refine zw_7 zr_84_5 rfl ?_
  refine zw_46r (s := 1) zr_84_6 rfl rfl rfl rfl ?_
  refine zw_C zr_84_9 (Or.inl rfl) zm_53 rfl rfl ⟨Nat.le_of_ble_eq_true rfl, Nat.le_of_ble_eq_true rfl, Nat.le_of_ble_eq_true rfl, rfl, by decide⟩ (by omega) (th_53 (d := d - 1) (by omega) hIm1  (g0 := g1) (g1 := g2) (g2 := g3)   km1_1_1 km1_1_2 km1_1_3   ) ?_
  rintro _ _ ⟨r2, rfl, hr2a, hr2b, rfl, po0_r2⟩
  show zW E (d) 84 12 [(2, 55)] [(1, r2), (2, 55)] m1 Q
  refine zw_C zr_84_12 (Or.inl rfl) zm_83 rfl rfl ⟨Nat.le_of_ble_eq_true rfl, Nat.le_of_ble_eq_true rfl, Nat.le_of_ble_eq_true rfl, rfl, by decide⟩ (by omega) (th_83 (d := d - 1) (by omega) hIm1 (a0 := r2) (g0 := g0) (g1 := g1)  (F6 := F6) (F7 := F7) (F56 := m1 56) (F57 := m1 57) (F58 := m1 58) (F59 := m1 59) km1_1_0 km1_1_1 fm1_6 fm1_7 rfl rfl rfl rfl (by omega) (hp0)) ?_
  rintro _ m4 ⟨r5, rfl, hr5a, hr5b, hIm4, gm4, po0_r5⟩
  have hFm4 : zFr W_84 m0 m4 := hFm1.trans gm4 rfl
  have km4_1_0 : m4 1 0 = g0 := (gm4 1 0 rfl).trans km1_1_0
  have km4_1_1 : m4 1 1 = g1 := (gm4 1 1 rfl).trans km1_1_1
  have km4_1_2 : m4 1 2 = g2 := (gm4 1 2 rfl).trans km1_1_2
  have km4_1_3 : m4 1 3 = g3 := (gm4 1 3 rfl).trans km1_1_3
  have km4_1_4 : m4 1 4 = g4 := (gm4 1 4 rfl).trans km1_1_4
  have km4_1_5 : m4 1 5 = g5 := (gm4 1 5 rfl).trans km1_1_5
  have fm4_2 : m4 2 = F2 := (funext fun k => gm4 2 k rfl).trans fm1_2
  have fm4_5 : m4 5 = F5 := (funext fun k => gm4 5 k rfl).trans fm1_5
  have fm4_6 : m4 6 = F6 := (funext fun k => gm4 6 k rfl).trans fm1_6
  have fm4_7 : m4 7 = F7 := (funext fun k => gm4 7 k rfl).trans fm1_7
  have fm4_8 : m4 8 = F8 := (funext fun k => gm4 8 k rfl).trans fm1_8
  have fm4_12 : m4 12 = F12 := (funext fun k => gm4 12 k rfl).trans fm1_12
  show zW E (d) 84 15 [(2, 55)] [(1, r5)] m4 Q
  refine zw_push zr_84_15 ?_
  refine zw_39_4 zr_84_16 zr_84_17 ?_ ?_
  · intro h6
    refine zw_push zr_84_24 ?_
    refine zw_R zr_84_25 (by decide) zm_84 (v := (0, 0)) (zRetB (by omega)) ?_
    rw [← hQ]; exact ⟨_, rfl, by omega, by omega, hIm4, hFm4, zAg2_r po0_r5 (edg_k po0_m1 (zSy_a po0_r2 (by omega))) (by omega)⟩
  · intro h8
    refine zw_push zr_84_20 ?_
    refine zw_42 zr_84_21 ?_
    refine zw_R zr_84_25 (by decide) zm_84 (v := (0, 1)) (zRetB (by omega)) ?_
    rw [← hQ]; exact ⟨_, rfl, by omega, by omega, hIm4, hFm4, zAg2_r po0_r5 (edg_k po0_m1 (zSy_a po0_r2 (by omega))) (by omega)⟩

abbrev W_117 : List (Nat × Nat) := [(56, 1000), (57, 1000), (58, 1000), (59, 1000)]
set_option maxHeartbeats 8000000 in
theorem th_117 {E : zE} {d : Nat} {m0 : zM} {g0 : Int} {g1 : Int} {g2 : Int} {g3 : Int} {g4 : Int} {g5 : Int} {F2 : Nat → Int} {F5 : Nat → Int} {F6 : Nat → Int} {F7 : Nat → Int} {F8 : Nat → Int} {F12 : Nat → Int} (hd : 6 ≤ d) (hI0 : zInv m0) (hg0 : m0 1 0 = g0) (hg1 : m0 1 1 = g1) (hg2 : m0 1 2 = g2) (hg3 : m0 1 3 = g3) (hg4 : m0 1 4 = g4) (hg5 : m0 1 5 = g5) (hG2 : m0 2 = F2) (hG5 : m0 5 = F5) (hG6 : m0 6 = F6) (hG7 : m0 7 = F7) (hG8 : m0 8 = F8) (hG12 : m0 12 = F12) (hp0 : zPl F6 F7 g1 g0) : zC E d 117 [(2, 0)] m0 (fun v m' => ∃ r : Int, v = (0, r) ∧ 0 ≤ r ∧ r ≤ 1 ∧ zInv m' ∧ zFr W_117 m0 m' ∧ (zQu (zEk F5 F6 F7 F8 F2 F12 g4 g5 (zSa g2 g3 g1)) r)) := by
  have hF0 : zFr W_117 m0 m0 := zFr.rfl
  have bg0 := ib_1_0 hI0
  rw [hg0] at bg0
  have bg1 := ib_1_1 hI0
  rw [hg1] at bg1
  have bg2 := ib_1_2 hI0
  rw [hg2] at bg2
  have bg3 := ib_1_3 hI0
  rw [hg3] at bg3
  have bg4 := ib_1_4 hI0
  rw [hg4] at bg4
  have bg5 := ib_1_5 hI0
  rw [hg5] at bg5
  generalize hQ : (fun (v : zV) (m' : zM) => ∃ r : Int, v = (0, r) ∧ 0 ≤ r ∧ r ≤ 1 ∧ zInv m' ∧ zFr W_117 m0 m' ∧ (zQu (zEk F5 F6 F7 F8 F2 F12 g4 g5 (zSa g2 g3 g1)) r)) = Q
  show zW E d 117 0 [(2, 0)] [] m0 Q
  refine zw_7 zr_117_0 rfl ?_
  refine zw_46r (s := 55) zr_117_1 rfl rfl rfl rfl ?_
  refine zw_C zr_117_4 (Or.inl rfl) zm_84 rfl rfl ⟨Nat.le_of_ble_eq_true rfl, Nat.le_of_ble_eq_true rfl, Nat.le_of_ble_eq_true rfl, rfl, by decide⟩ (by omega) (th_84 (d := d - 1) (by omega) hI0  (g0 := g0) (g1 := g1) (g2 := g2) (g3 := g3) (g4 := g4) (g5 := g5)  (F2 := F2) (F5 := F5) (F6 := F6) (F7 := F7) (F8 := F8) (F12 := F12) hg0 hg1 hg2 hg3 hg4 hg5 hG2 hG5 hG6 hG7 hG8 hG12  (hp0)) ?_
  rintro _ m2 ⟨r3, rfl, hr3a, hr3b, hIm2, gm2, po0_r3⟩
  have hFm2 : zFr W_117 m0 m2 := hF0.trans gm2 rfl
  have km2_1_0 : m2 1 0 = g0 := (gm2 1 0 rfl).trans hg0
  have km2_1_1 : m2 1 1 = g1 := (gm2 1 1 rfl).trans hg1
  have km2_1_2 : m2 1 2 = g2 := (gm2 1 2 rfl).trans hg2
  have km2_1_3 : m2 1 3 = g3 := (gm2 1 3 rfl).trans hg3
  have km2_1_4 : m2 1 4 = g4 := (gm2 1 4 rfl).trans hg4
  have km2_1_5 : m2 1 5 = g5 := (gm2 1 5 rfl).trans hg5
  have fm2_2 : m2 2 = F2 := (funext fun k => gm2 2 k rfl).trans hG2
  have fm2_5 : m2 5 = F5 := (funext fun k => gm2 5 k rfl).trans hG5
  have fm2_6 : m2 6 = F6 := (funext fun k => gm2 6 k rfl).trans hG6
  have fm2_7 : m2 7 = F7 := (funext fun k => gm2 7 k rfl).trans hG7
  have fm2_8 : m2 8 = F8 := (funext fun k => gm2 8 k rfl).trans hG8
  have fm2_12 : m2 12 = F12 := (funext fun k => gm2 12 k rfl).trans hG12
  show zW E (d) 117 7 [(2, 0)] [(0, r3)] m2 Q
  refine zw_40_1 zr_117_7 ?_ ?_
  · intro h4
    refine zw_push zr_117_14 ?_
    refine zw_R zr_117_15 (by decide) zm_117 (v := (0, 1)) rfl ?_
    rw [← hQ]; exact ⟨_, rfl, by omega, by omega, hIm2, hFm2, zAg2_q po0_r3 (by omega)⟩
  · intro h6
    refine zw_push zr_117_10 ?_
    refine zw_42 zr_117_11 ?_
    refine zw_R zr_117_15 (by decide) zm_117 (v := (0, 0)) rfl ?_
    rw [← hQ]; exact ⟨_, rfl, by omega, by omega, hIm2, hFm2, zAg2_q po0_r3 (by omega)⟩

set_option maxHeartbeats 8000000 in
theorem th_182 {E : zE} {d : Nat} {m0 : zM} {a0 : Int} {a1 : Int} {F70 : Nat → Int} (hd : 1 ≤ d) (hI0 : zInv m0) (hG70 : m0 70 = F70) (ha0 : 0 ≤ a0 ∧ a0 ≤ 9) (ha1 : 0 ≤ a1 ∧ a1 ≤ 99) : zC E d 182 [(2, 69), (0, a0), (0, a1)] m0 (fun v m' => ∃ r : Int, v = (0, r) ∧ (-500) ≤ r ∧ r ≤ 500 ∧ m0 = m' ∧ (r = shg F70 a0 a1)) := by
  generalize hQ : (fun (v : zV) (m' : zM) => ∃ r : Int, v = (0, r) ∧ (-500) ≤ r ∧ r ≤ 500 ∧ m0 = m' ∧ (r = shg F70 a0 a1)) = Q
  show zW E d 182 0 [(2, 69), (0, a0), (0, a1), (9, 0)] [] m0 Q
  refine zw_3 zr_182_0 rfl ?_
  refine zw_7 zr_182_1 rfl ?_
  refine zw_46r (s := 70) zr_182_2 rfl rfl rfl rfl ?_
  refine zw_push zr_182_5 ?_
  refine zw_3 zr_182_6 rfl ?_
  refine zw_16 zr_182_7 (by omega) ?_
  refine zw_48 (c := 70) (len := 826) zr_182_8 rfl rfl (by omega) (by omega) ?_
  intro x1 ex1
  have bx1 := ib_70_born hI0 (k := ((0 + a0)).toNat) (by omega)
  rw [← ex1] at bx1
  have qx1 : x1 = F70 ((0 + a0)).toNat := by rw [← hG70]; exact ex1
  clear ex1
  have hb := qx1
  refine zw_17 zr_182_9 (by omega) ?_
  refine zw_9 (L' := [(2, 69), (0, a0), (0, a1), (0, (a1 - x1))]) zr_182_10 (Nat.le_of_ble_eq_true rfl) rfl ?_
  refine zw_3 zr_182_11 rfl ?_
  refine zw_40_3 zr_182_12 ?_ ?_
  · intro h3
    refine zw_3 zr_182_19 rfl ?_
    refine zw_push zr_182_20 ?_
    refine zw_41_5 zr_182_23 ?_ ?_
    · intro h4
      refine zw_3 zr_182_32 rfl ?_
      refine zw_9 (L' := [(2, 69), (0, a0), (0, a1), (0, (a1 - x1))]) zr_182_33 (Nat.le_of_ble_eq_true rfl) rfl ?_
      refine zw_7 zr_182_34 rfl ?_
      refine zw_46r (s := 70) zr_182_35 rfl rfl rfl rfl ?_
      refine zw_push zr_182_38 ?_
      refine zw_3 zr_182_41 rfl ?_
      refine zw_16 zr_182_42 (by omega) ?_
      refine zw_48 (c := 70) (len := 826) zr_182_43 rfl rfl (by omega) (by omega) ?_
      intro x5 ex5
      have bx5 := ib_70_shape hI0 (k := ((658 + (a1 - x1))).toNat) (by omega)
      rw [← ex5] at bx5
      have qx5 : x5 = F70 ((658 + (a1 - x1))).toNat := by rw [← hG70]; exact ex5
      clear ex5
      refine zw_R zr_182_44 (by decide) zm_182 (v := (0, x5)) rfl ?_
      rw [← hQ]; exact ⟨_, rfl, by omega, by omega, rfl, shg_e (v := (a1 - x1)) hb (by omega) (by omega) qx5 (by omega)⟩
    · intro h7; omega
  · intro h8
    refine zw_push zr_182_15 ?_
    refine zw_42 zr_182_16 ?_
    refine zw_9 (L' := [(2, 69), (0, a0), (0, a1), (0, 0)]) zr_182_33 (Nat.le_of_ble_eq_true rfl) rfl ?_
    refine zw_7 zr_182_34 rfl ?_
    refine zw_46r (s := 70) zr_182_35 rfl rfl rfl rfl ?_
    refine zw_push zr_182_38 ?_
    refine zw_3 zr_182_41 rfl ?_
    refine zw_16 zr_182_42 (by omega) ?_
    obtain ⟨f9, ef9⟩ : ∃ v, m0 70 658 = v := ⟨_, rfl⟩
    have bf9 : (-500) ≤ m0 70 658 ∧ m0 70 658 ≤ 500 := ib_70_shape hI0 (by omega)
    rw [ef9] at bf9
    refine zw_48k (c := 70) (len := 826) zr_182_43 rfl rfl (by omega) (by omega) (show ((658 + 0) : Int).toNat = 658 by omega) ef9 ?_
    have qf9 : f9 = F70 ((658 + 0) : Int).toNat := by rw [show ((658 + 0) : Int).toNat = 658 by omega, ← hG70]; exact (ef9).symm
    refine zw_R zr_182_44 (by decide) zm_182 (v := (0, f9)) rfl ?_
    rw [← hQ]; exact ⟨_, rfl, by omega, by omega, rfl, shg_e (v := 0) hb (by omega) (by omega) qf9 (by omega)⟩
