abbrev W_180 : List (Nat × Nat) := [(70, 1000)]
set_option maxHeartbeats 8000000 in
theorem th_180 {E : zE} {d : Nat} {m0 : zM} {a0 : Int} {a1 : Int} {F70 : Nat → Int} (hd : 2 ≤ d) (hI0 : zInv m0) (hG70 : m0 70 = F70) (ha0 : (-2147483648) ≤ a0 ∧ a0 ≤ 2147483647) (ha1 : (-2147483648) ≤ a1 ∧ a1 ≤ 2147483647) : zC E d 180 [(2, 69), (0, a0), (0, a1)] m0 (fun v m' => ∃ r : Int, v = (0, r) ∧ (-2) ≤ r ∧ r ≤ 1 ∧ zInv m' ∧ zFr W_180 m0 m' ∧ ((r = 1 ∧ 1 ≤ a0 ∧ a0 ≤ 1000 ∧ 0 ≤ a1 ∧ a1 ≤ 500) ∨ (r = -2 ∧ (a0 < 1 ∨ 1000 < a0 ∨ a1 < 0 ∨ 500 < a1))) ∧ (m' 70 = if 0 ≤ r then zPt (zPt F70 824 a0) 825 a1 else F70)) := by
  have hF0 : zFr W_180 m0 m0 := zFr.rfl
  generalize hQ : (fun (v : zV) (m' : zM) => ∃ r : Int, v = (0, r) ∧ (-2) ≤ r ∧ r ≤ 1 ∧ zInv m' ∧ zFr W_180 m0 m' ∧ ((r = 1 ∧ 1 ≤ a0 ∧ a0 ≤ 1000 ∧ 0 ≤ a1 ∧ a1 ≤ 500) ∨ (r = -2 ∧ (a0 < 1 ∨ 1000 < a0 ∨ a1 < 0 ∨ 500 < a1))) ∧ (m' 70 = if 0 ≤ r then zPt (zPt F70 824 a0) 825 a1 else F70)) = Q
  show zW E d 180 0 [(2, 69), (0, a0), (0, a1)] [] m0 Q
  refine zw_3 zr_180_0 rfl ?_
  refine zw_36 zr_180_1 ?_
  refine zw_push zr_180_2 ?_
  refine zw_push zr_180_3 ?_
  refine zw_C zr_180_6 (Or.inr rfl) zm_140 rfl rfl ⟨Nat.le_of_ble_eq_true rfl, Nat.le_of_ble_eq_true rfl, Nat.le_of_ble_eq_true rfl, rfl, by decide⟩ (by omega) (P := (fun v m' => zW E (d) 180 9 [(2, 69), (0, a0), (0, a1)] (if v.1 = 9 then [] else v :: []) m' Q)) ?_ (fun _ _ h => h)
  generalize hQ1 : (fun v m' => zW E (d) 180 9 [(2, 69), (0, a0), (0, a1)] (if v.1 = 9 then [] else v :: []) m' Q) = Q1
  show zW E (d - 1) 140 0 [(1, a0), (9, 0), (1, 1), (9, 0), (1, 1000), (9, 0)] [] m0 Q1
  refine zw_5 zr_140_0 rfl ?_
  refine zw_5 zr_140_1 rfl ?_
  refine zw_39_0 zr_140_2 zr_140_3 ?_ ?_
  · intro h1
    refine zw_push zr_140_17 ?_
    refine zw_R zr_140_18 (by decide) zm_140 (v := (0, 0)) (zRetB (by omega)) ?_
    rw [← hQ1]
    show zW E (d) 180 9 [(2, 69), (0, a0), (0, a1)] [(0, 0)] m0 Q
    refine zw_40_1 zr_180_9 ?_ ?_
    · intro h2
      refine zw_push zr_180_24 ?_
      refine zw_R zr_180_26 (by decide) zm_180 (v := (0, (-2))) rfl ?_
      rw [← hQ]; exact ⟨_, rfl, by omega, by omega, hI0, hF0, by omega, by rw [hG70]; first | exact (if_neg (by omega)).symm | exact (if_pos (by omega)).symm⟩
    · intro h5; omega
  · intro h6
    refine zw_5 zr_140_6 rfl ?_
    refine zw_6 zr_140_7 rfl ?_
    refine zw_39_2 zr_140_9 zr_140_10 ?_ ?_
    · intro h7
      refine zw_push zr_140_17 ?_
      refine zw_R zr_140_18 (by decide) zm_140 (v := (0, 0)) (zRetB (by omega)) ?_
      rw [← hQ1]
      show zW E (d) 180 9 [(2, 69), (0, a0), (0, a1)] [(0, 0)] m0 Q
      refine zw_40_1 zr_180_9 ?_ ?_
      · intro h8
        refine zw_push zr_180_24 ?_
        refine zw_R zr_180_26 (by decide) zm_180 (v := (0, (-2))) rfl ?_
        rw [← hQ]; exact ⟨_, rfl, by omega, by omega, hI0, hF0, by omega, by rw [hG70]; first | exact (if_neg (by omega)).symm | exact (if_pos (by omega)).symm⟩
      · intro h11; omega
    · intro h12
      refine zw_push zr_140_13 ?_
      refine zw_42 zr_140_14 ?_
      refine zw_R zr_140_18 (by decide) zm_140 (v := (0, 1)) (zRetB (by omega)) ?_
      rw [← hQ1]
      show zW E (d) 180 9 [(2, 69), (0, a0), (0, a1)] [(0, 1)] m0 Q
      refine zw_40_1 zr_180_9 ?_ ?_
      · intro h13; omega
      · intro h14
        refine zw_3 zr_180_12 rfl ?_
        refine zw_36 zr_180_13 ?_
        refine zw_push zr_180_14 ?_
        refine zw_push zr_180_15 ?_
        refine zw_C zr_180_18 (Or.inr rfl) zm_140 rfl rfl ⟨Nat.le_of_ble_eq_true rfl, Nat.le_of_ble_eq_true rfl, Nat.le_of_ble_eq_true rfl, rfl, by decide⟩ (by omega) (P := (fun v m' => zW E (d) 180 21 [(2, 69), (0, a0), (0, a1)] (if v.1 = 9 then [] else v :: []) m' Q)) ?_ (fun _ _ h => h)
        generalize hQ1 : (fun v m' => zW E (d) 180 21 [(2, 69), (0, a0), (0, a1)] (if v.1 = 9 then [] else v :: []) m' Q) = Q1
        show zW E (d - 1) 140 0 [(1, a1), (9, 0), (1, 0), (9, 0), (1, 500), (9, 0)] [] m0 Q1
        refine zw_5 zr_140_0 rfl ?_
        refine zw_5 zr_140_1 rfl ?_
        refine zw_39_0 zr_140_2 zr_140_3 ?_ ?_
        · intro h15
          refine zw_push zr_140_17 ?_
          refine zw_R zr_140_18 (by decide) zm_140 (v := (0, 0)) (zRetB (by omega)) ?_
          rw [← hQ1]
          show zW E (d) 180 21 [(2, 69), (0, a0), (0, a1)] [(0, 0)] m0 Q
          refine zw_40_4 zr_180_21 ?_ ?_
          · intro h16; omega
          · intro h17
            refine zw_push zr_180_24 ?_
            refine zw_R zr_180_26 (by decide) zm_180 (v := (0, (-2))) rfl ?_
            rw [← hQ]; exact ⟨_, rfl, by omega, by omega, hI0, hF0, by omega, by rw [hG70]; first | exact (if_neg (by omega)).symm | exact (if_pos (by omega)).symm⟩
        · intro h20
          refine zw_5 zr_140_6 rfl ?_
          refine zw_6 zr_140_7 rfl ?_
          refine zw_39_2 zr_140_9 zr_140_10 ?_ ?_
          · intro h21
            refine zw_push zr_140_17 ?_
            refine zw_R zr_140_18 (by decide) zm_140 (v := (0, 0)) (zRetB (by omega)) ?_
            rw [← hQ1]
            show zW E (d) 180 21 [(2, 69), (0, a0), (0, a1)] [(0, 0)] m0 Q
            refine zw_40_4 zr_180_21 ?_ ?_
            · intro h22; omega
            · intro h23
              refine zw_push zr_180_24 ?_
              refine zw_R zr_180_26 (by decide) zm_180 (v := (0, (-2))) rfl ?_
              rw [← hQ]; exact ⟨_, rfl, by omega, by omega, hI0, hF0, by omega, by rw [hG70]; first | exact (if_neg (by omega)).symm | exact (if_pos (by omega)).symm⟩
          · intro h26
            refine zw_push zr_140_13 ?_
            refine zw_42 zr_140_14 ?_
            refine zw_R zr_140_18 (by decide) zm_140 (v := (0, 1)) (zRetB (by omega)) ?_
            rw [← hQ1]
            show zW E (d) 180 21 [(2, 69), (0, a0), (0, a1)] [(0, 1)] m0 Q
            refine zw_40_4 zr_180_21 ?_ ?_
            · intro h27
              refine zw_7 zr_180_27 rfl ?_
              refine zw_46r (s := 70) zr_180_28 rfl rfl rfl rfl ?_
              refine zw_push zr_180_31 ?_
              refine zw_3 zr_180_34 rfl ?_
              refine zw_49 (c := 70) (len := 826) zr_180_35 rfl rfl (by omega) (by omega) ?_
              intro m28 em28
              have hIm28 : zInv m28 := by rw [em28]; exact iu_70_wide hI0 (by omega) (by omega)
              have hFm28 : zFr W_180 m0 m28 := by rw [em28]; exact hF0.any rfl
              have km28_70_824 : m28 70 824 = a0 := by rw [em28, show (824 : Int).toNat = 824 by omega]; exact zUp_eq _ _ _ _
              have fm28_70 : m28 70 = zPt F70 824 a0 := by rw [em28]; exact (zUp_ff (m := m0)).trans (congrArg (fun q => zPt q 824 a0) hG70)
              clear em28
              refine zw_7 zr_180_36 rfl ?_
              refine zw_46r (s := 70) zr_180_37 rfl rfl rfl rfl ?_
              refine zw_push zr_180_40 ?_
              refine zw_3 zr_180_43 rfl ?_
              refine zw_49 (c := 70) (len := 826) zr_180_44 rfl rfl (by omega) (by omega) ?_
              intro m29 em29
              have hIm29 : zInv m29 := by rw [em29]; exact iu_70_even hIm28 (by omega) (by omega)
              have hFm29 : zFr W_180 m0 m29 := by rw [em29]; exact hFm28.any rfl
              have km29_70_824 : m29 70 824 = a0 := by rw [em29, zUp_ne (by omega)]; exact km28_70_824
              have km29_70_825 : m29 70 825 = a1 := by rw [em29, show (825 : Int).toNat = 825 by omega]; exact zUp_eq _ _ _ _
              have fm29_70 : m29 70 = zPt (zPt F70 824 a0) 825 a1 := by rw [em29]; exact (zUp_ff (m := m28)).trans (congrArg (fun q => zPt q 825 a1) fm28_70)
              clear em29
              refine zw_push zr_180_45 ?_
              refine zw_R zr_180_46 (by decide) zm_180 (v := (0, 1)) rfl ?_
              rw [← hQ]; exact ⟨_, rfl, by omega, by omega, hIm29, hFm29, by omega, by rw [fm29_70]; first | exact (if_neg (by omega)).symm | exact (if_pos (by omega)).symm⟩
            · intro h32; omega

set_option maxHeartbeats 8000000 in
theorem th_58 {E : zE} {d : Nat} {m0 : zM} {a0 : Int} {a1 : Int} (hd : 1 ≤ d) (hI0 : zInv m0) (ha0 : 0 ≤ a0 ∧ a0 ≤ 9) (ha1 : 0 ≤ a1 ∧ a1 ≤ 99) : zC E d 58 [(2, 1), (0, a0), (0, a1)] m0 (fun v m' => ∃ r : Int, v = (0, r) ∧ (-500) ≤ r ∧ r ≤ 500 ∧ m0 = m') := by
  generalize hQ : (fun (v : zV) (m' : zM) => ∃ r : Int, v = (0, r) ∧ (-500) ≤ r ∧ r ≤ 500 ∧ m0 = m') = Q
  show zW E d 58 0 [(2, 1), (0, a0), (0, a1)] [] m0 Q
  refine zw_7 zr_58_0 rfl ?_
  refine zw_46r (s := 12) zr_58_1 rfl rfl rfl rfl ?_
  refine zw_push zr_58_4 ?_
  refine zw_push zr_58_5 ?_
  refine zw_3 zr_58_8 rfl ?_
  refine zw_7 zr_58_9 rfl ?_
  refine zw_46r (s := 2) zr_58_10 rfl rfl rfl rfl ?_
  refine zw_3 zr_58_13 rfl ?_
  refine zw_48 (c := 2) (len := 10) zr_58_14 rfl rfl (by omega) (by omega) ?_
  intro x1 ex1
  have bx1 := ib_2 hI0 (k := (a0).toNat) (by omega)
  rw [← ex1] at bx1
  clear ex1
  refine zw_17 zr_58_15 (by omega) ?_
  refine zw_121 zr_58_16 (Nat.le_of_ble_eq_true rfl) (by omega) (by omega) (by omega) ?_
  intro x2 hx2a hx2b hx2c
  refine zw_120 zr_58_19 (Nat.le_of_ble_eq_true rfl) (by omega) (by omega) (by omega) ?_
  intro x3 hx3a hx3b hx3c
  refine zw_48 (c := 12) (len := 160) zr_58_22 rfl rfl (by omega) (by omega) ?_
  intro x4 ex4
  have bx4 := ib_12 hI0 (k := (x3).toNat) (by omega)
  rw [← ex4] at bx4
  clear ex4
  refine zw_R zr_58_23 (by decide) zm_58 (v := (0, x4)) rfl ?_
  rw [← hQ]; exact ⟨_, rfl, by omega, by omega, rfl⟩

abbrev W_78 : List (Nat × Nat) := [(56, 1000), (57, 1000)]
set_option maxHeartbeats 8000000 in
theorem th_78 {E : zE} {d : Nat} {m0 : zM} (hd : 2 ≤ d) (hI0 : zInv m0) : zC E d 78 [(2, 55)] m0 (fun v m' => v = (9, 0) ∧ zInv m' ∧ zFr W_78 m0 m') := by
  have hF0 : zFr W_78 m0 m0 := zFr.rfl
  generalize hQ : (fun (v : zV) (m' : zM) => v = (9, 0) ∧ zInv m' ∧ zFr W_78 m0 m') = Q
  show zW E d 78 0 [(2, 55), (9, 0), (9, 0), (9, 0), (9, 0)] [] m0 Q
  refine zw_push zr_78_0 ?_
  refine zw_9 (L' := [(2, 55), (0, 0), (9, 0), (9, 0), (9, 0)]) zr_78_1 (Nat.le_of_ble_eq_true rfl) rfl ?_
  have lp2_3 : ∀ (nlp2_3 : Nat) (i1 : Int) (m2 : zM), zInv m2 → zFr W_78 m0 m2 → 0 ≤ i1 → i1 ≤ 60 → (60 - i1).toNat < nlp2_3 → zW E (d) 78 2 [(2, 55), (0, i1), (9, 0), (9, 0), (9, 0)] [] m2 Q := by
    intro nlp2_3
    induction nlp2_3 with
    | zero =>
      intros
      exact absurd (by assumption : _ < 0) (Nat.not_lt_zero _)
    | succ nlp2_3 ihlp2_3 =>
      intro i1 m2 hIm2 hFm2 li1 ui1 hmlp2_3
      refine zw_3 zr_78_2 rfl ?_
      refine zw_7 zr_78_3 rfl ?_
      refine zw_46r (s := 1) zr_78_4 rfl rfl rfl rfl ?_
      obtain ⟨f5, ef5⟩ : ∃ v, m2 1 1 = v := ⟨_, rfl⟩
      have bf5 := ib_1_1 hIm2
      rw [ef5] at bf5
      refine zw_46i zr_78_7 ef5 rfl rfl rfl ?_
      refine zw_41_3 zr_78_10 ?_ ?_
      · intro h6
        refine zw_R zr_78_167 (by decide) zm_78 (v := (9, 0)) rfl ?_
        rw [← hQ]; exact ⟨rfl, hIm2, hFm2⟩
      · intro h7
        refine zw_7 zr_78_13 rfl ?_
        refine zw_46r (s := 1) zr_78_14 rfl rfl rfl rfl ?_
        refine zw_46r (s := 5) zr_78_17 rfl rfl rfl rfl ?_
        refine zw_3 zr_78_20 rfl ?_
        refine zw_48 (c := 5) (len := 60) zr_78_21 rfl rfl (by omega) (by omega) ?_
        intro x8 ex8
        have bx8 := ib_5 hIm2 (k := (i1).toNat) (by omega)
        rw [← ex8] at bx8
        clear ex8
        refine zw_9 (L' := [(2, 55), (0, i1), (0, x8), (9, 0), (9, 0)]) zr_78_22 (Nat.le_of_ble_eq_true rfl) rfl ?_
        refine zw_7 zr_78_23 rfl ?_
        refine zw_46r (s := 1) zr_78_24 rfl rfl rfl rfl ?_
        refine zw_7 zr_78_27 rfl ?_
        refine zw_46r (s := 1) zr_78_28 rfl rfl rfl rfl ?_
        refine zw_46r (s := 6) zr_78_31 rfl rfl rfl rfl ?_
        refine zw_3 zr_78_34 rfl ?_
        refine zw_48 (c := 6) (len := 60) zr_78_35 rfl rfl (by omega) (by omega) ?_
        intro x9 ex9
        have bx9 := ib_6 hIm2 (k := (i1).toNat) (by omega)
        rw [← ex9] at bx9
        clear ex9
        refine zw_3 zr_78_36 rfl ?_
        refine zw_C zr_78_37 (Or.inl rfl) zm_58 rfl rfl ⟨Nat.le_of_ble_eq_true rfl, Nat.le_of_ble_eq_true rfl, Nat.le_of_ble_eq_true rfl, rfl, by decide⟩ (by omega) (th_58 (d := d - 1) (by omega) hIm2 (a0 := x9) (a1 := x8)      (by omega) (by omega) ) ?_
        rintro _ _ ⟨r10, rfl, hr10a, hr10b, rfl⟩
        show zW E (d) 78 40 [(2, 55), (0, i1), (0, x8), (9, 0), (9, 0)] [(0, r10)] m2 Q
        refine zw_7 zr_78_40 rfl ?_
        refine zw_46r (s := 1) zr_78_41 rfl rfl rfl rfl ?_
        refine zw_7 zr_78_44 rfl ?_
        refine zw_46r (s := 1) zr_78_45 rfl rfl rfl rfl ?_
        refine zw_46r (s := 7) zr_78_48 rfl rfl rfl rfl ?_
        refine zw_3 zr_78_51 rfl ?_
        refine zw_48 (c := 7) (len := 60) zr_78_52 rfl rfl (by omega) (by omega) ?_
        intro x11 ex11
        have bx11 := ib_7 hIm2 (k := (i1).toNat) (by omega)
        rw [← ex11] at bx11
        clear ex11
        refine zw_3 zr_78_53 rfl ?_
        refine zw_C zr_78_54 (Or.inl rfl) zm_58 rfl rfl ⟨Nat.le_of_ble_eq_true rfl, Nat.le_of_ble_eq_true rfl, Nat.le_of_ble_eq_true rfl, rfl, by decide⟩ (by omega) (th_58 (d := d - 1) (by omega) hIm2 (a0 := x11) (a1 := x8)      (by omega) (by omega) ) ?_
        rintro _ _ ⟨r12, rfl, hr12a, hr12b, rfl⟩
        show zW E (d) 78 57 [(2, 55), (0, i1), (0, x8), (9, 0), (9, 0)] [(0, r12), (0, r10)] m2 Q
        refine zw_17 zr_78_57 (by omega) ?_
        refine zw_9 (L' := [(2, 55), (0, i1), (0, x8), (0, (r10 - r12)), (9, 0)]) zr_78_58 (Nat.le_of_ble_eq_true rfl) rfl ?_
        refine zw_7 zr_78_59 rfl ?_
        refine zw_46r (s := 1) zr_78_60 rfl rfl rfl rfl ?_
        refine zw_46r (s := 8) zr_78_63 rfl rfl rfl rfl ?_
        refine zw_3 zr_78_66 rfl ?_
        refine zw_48 (c := 8) (len := 60) zr_78_67 rfl rfl (by omega) (by omega) ?_
        intro x13 ex13
        have bx13 := ib_8 hIm2 (k := (i1).toNat) (by omega)
        rw [← ex13] at bx13
        clear ex13
        refine zw_10 (L' := [(2, 55), (0, i1), (0, x8), (0, (r10 - r12)), (0, x13)]) zr_78_68 (Nat.le_of_ble_eq_true rfl) rfl ?_
        refine zw_4 zr_78_70 rfl ?_
        refine zw_push zr_78_72 ?_
        refine zw_41_4 zr_78_73 ?_ ?_
        · intro h14
          refine zw_7 zr_78_110 rfl ?_
          refine zw_46r (s := 56) zr_78_111 rfl rfl rfl rfl ?_
          refine zw_3 zr_78_114 rfl ?_
          refine zw_4 zr_78_115 rfl ?_
          refine zw_push zr_78_117 ?_
          refine zw_41_4 zr_78_118 ?_ ?_
          · intro h15
            refine zw_7 zr_78_125 rfl ?_
            refine zw_46r (s := 1) zr_78_126 rfl rfl rfl rfl ?_
            obtain ⟨f16, ef16⟩ : ∃ v, m2 1 4 = v := ⟨_, rfl⟩
            have bf16 := ib_1_4 hIm2
            rw [ef16] at bf16
            refine zw_46i zr_78_129 ef16 rfl rfl rfl ?_
            refine zw_38 zr_78_132 (by omega) ?_
            refine zw_3 zr_78_133 rfl ?_
            refine zw_17 zr_78_134 (by omega) ?_
            refine zw_49 (c := 56) (len := 60) zr_78_135 rfl rfl (by omega) (by omega) ?_
            intro m17 em17
            have hIm17 : zInv m17 := by rw [em17]; exact hIm2.any (by omega) rfl (by decide) (by decide)
            have hFm17 : zFr W_78 m0 m17 := by rw [em17]; exact hFm2.any rfl
            have km17_1_1 : m17 1 1 = f5 := by rw [em17, zUp_ne (by omega)]; exact ef5
            have km17_1_4 : m17 1 4 = f16 := by rw [em17, zUp_ne (by omega)]; exact ef16
            clear em17
            refine zw_7 zr_78_136 rfl ?_
            refine zw_46r (s := 57) zr_78_137 rfl rfl rfl rfl ?_
            refine zw_3 zr_78_140 rfl ?_
            refine zw_4 zr_78_141 rfl ?_
            refine zw_push zr_78_143 ?_
            refine zw_41_4 zr_78_144 ?_ ?_
            · intro h18
              refine zw_push zr_78_157 ?_
              refine zw_3 zr_78_158 rfl ?_
              refine zw_17 zr_78_159 (by omega) ?_
              refine zw_49 (c := 57) (len := 60) zr_78_160 rfl rfl (by omega) (by omega) ?_
              intro m19 em19
              have hIm19 : zInv m19 := by rw [em19]; exact hIm17.any (by omega) rfl (by decide) (by decide)
              have hFm19 : zFr W_78 m0 m19 := by rw [em19]; exact hFm17.any rfl
              have km19_1_1 : m19 1 1 = f5 := by rw [em19, zUp_ne (by omega)]; exact km17_1_1
              have km19_1_4 : m19 1 4 = f16 := by rw [em19, zUp_ne (by omega)]; exact km17_1_4
              clear em19
              refine zw_15 (c := 1) (L' := [(2, 55), (0, (i1 + 1)), (0, x8), (0, (r10 - r12)), (0, x13)]) zr_78_161 rfl (by decide) (by omega) rfl ?_
              refine zw_42 zr_78_164 ?_
              exact zw_less (L := [(2, 55), (0, (i1 + 1)), (9, 0), (9, 0), (9, 0)]) ⟨Or.inr rfl, Or.inr rfl, Or.inl rfl, Or.inl rfl, Or.inl rfl, trivial⟩ (ihlp2_3 ((i1 + 1)) m19 hIm19 hFm19   (by omega) (by omega)  (by omega))
            · intro h20; omega
          · intro h21
            refine zw_push zr_78_121 ?_
            refine zw_42 zr_78_122 ?_
            refine zw_3 zr_78_133 rfl ?_
            refine zw_17 zr_78_134 (by omega) ?_
            refine zw_49 (c := 56) (len := 60) zr_78_135 rfl rfl (by omega) (by omega) ?_
            intro m22 em22
            have hIm22 : zInv m22 := by rw [em22]; exact hIm2.any (by omega) rfl (by decide) (by decide)
            have hFm22 : zFr W_78 m0 m22 := by rw [em22]; exact hFm2.any rfl
            have km22_1_1 : m22 1 1 = f5 := by rw [em22, zUp_ne (by omega)]; exact ef5
            clear em22
            refine zw_7 zr_78_136 rfl ?_
            refine zw_46r (s := 57) zr_78_137 rfl rfl rfl rfl ?_
            refine zw_3 zr_78_140 rfl ?_
            refine zw_4 zr_78_141 rfl ?_
            refine zw_push zr_78_143 ?_
            refine zw_41_4 zr_78_144 ?_ ?_
            · intro h23; omega
            · intro h24
              refine zw_7 zr_78_147 rfl ?_
              refine zw_46r (s := 1) zr_78_148 rfl rfl rfl rfl ?_
              obtain ⟨f25, ef25⟩ : ∃ v, m22 1 4 = v := ⟨_, rfl⟩
              have bf25 := ib_1_4 hIm22
              rw [ef25] at bf25
              refine zw_46i zr_78_151 ef25 rfl rfl rfl ?_
              refine zw_42 zr_78_154 ?_
              refine zw_3 zr_78_158 rfl ?_
              refine zw_17 zr_78_159 (by omega) ?_
              refine zw_49 (c := 57) (len := 60) zr_78_160 rfl rfl (by omega) (by omega) ?_
              intro m26 em26
              have hIm26 : zInv m26 := by rw [em26]; exact hIm22.any (by omega) rfl (by decide) (by decide)
              have hFm26 : zFr W_78 m0 m26 := by rw [em26]; exact hFm22.any rfl
              have km26_1_1 : m26 1 1 = f5 := by rw [em26, zUp_ne (by omega)]; exact km22_1_1
              have km26_1_4 : m26 1 4 = f25 := by rw [em26, zUp_ne (by omega)]; exact ef25
              clear em26
              refine zw_15 (c := 1) (L' := [(2, 55), (0, (i1 + 1)), (0, x8), (0, (r10 - r12)), (0, x13)]) zr_78_161 rfl (by decide) (by omega) rfl ?_
              refine zw_42 zr_78_164 ?_
              exact zw_less (L := [(2, 55), (0, (i1 + 1)), (9, 0), (9, 0), (9, 0)]) ⟨Or.inr rfl, Or.inr rfl, Or.inl rfl, Or.inl rfl, Or.inl rfl, trivial⟩ (ihlp2_3 ((i1 + 1)) m26 hIm26 hFm26   (by omega) (by omega)  (by omega))
        · intro h27
          refine zw_7 zr_78_76 rfl ?_
          refine zw_46r (s := 56) zr_78_77 rfl rfl rfl rfl ?_
          refine zw_3 zr_78_80 rfl ?_
          refine zw_7 zr_78_81 rfl ?_
          refine zw_46r (s := 1) zr_78_82 rfl rfl rfl rfl ?_
          obtain ⟨f28, ef28⟩ : ∃ v, m2 1 5 = v := ⟨_, rfl⟩
          have bf28 := ib_1_5 hIm2
          rw [ef28] at bf28
          refine zw_46i zr_78_85 ef28 rfl rfl rfl ?_
          refine zw_38 zr_78_88 (by omega) ?_
          refine zw_3 zr_78_89 rfl ?_
          refine zw_17 zr_78_90 (by omega) ?_
          refine zw_49 (c := 56) (len := 60) zr_78_91 rfl rfl (by omega) (by omega) ?_
          intro m29 em29
          have hIm29 : zInv m29 := by rw [em29]; exact hIm2.any (by omega) rfl (by decide) (by decide)
          have hFm29 : zFr W_78 m0 m29 := by rw [em29]; exact hFm2.any rfl
          have km29_1_1 : m29 1 1 = f5 := by rw [em29, zUp_ne (by omega)]; exact ef5
          have km29_1_5 : m29 1 5 = f28 := by rw [em29, zUp_ne (by omega)]; exact ef28
          clear em29
          refine zw_7 zr_78_92 rfl ?_
          refine zw_46r (s := 57) zr_78_93 rfl rfl rfl rfl ?_
          refine zw_3 zr_78_96 rfl ?_
          refine zw_7 zr_78_97 rfl ?_
          refine zw_46r (s := 1) zr_78_98 rfl rfl rfl rfl ?_
          refine zw_46i zr_78_101 km29_1_5 rfl rfl rfl ?_
          refine zw_3 zr_78_104 rfl ?_
          refine zw_17 zr_78_105 (by omega) ?_
          refine zw_49 (c := 57) (len := 60) zr_78_106 rfl rfl (by omega) (by omega) ?_
          intro m30 em30
          have hIm30 : zInv m30 := by rw [em30]; exact hIm29.any (by omega) rfl (by decide) (by decide)
          have hFm30 : zFr W_78 m0 m30 := by rw [em30]; exact hFm29.any rfl
          have km30_1_1 : m30 1 1 = f5 := by rw [em30, zUp_ne (by omega)]; exact km29_1_1
          have km30_1_5 : m30 1 5 = f28 := by rw [em30, zUp_ne (by omega)]; exact km29_1_5
          clear em30
          refine zw_42 zr_78_107 ?_
          refine zw_15 (c := 1) (L' := [(2, 55), (0, (i1 + 1)), (0, x8), (0, (r10 - r12)), (0, x13)]) zr_78_161 rfl (by decide) (by omega) rfl ?_
          refine zw_42 zr_78_164 ?_
          exact zw_less (L := [(2, 55), (0, (i1 + 1)), (9, 0), (9, 0), (9, 0)]) ⟨Or.inr rfl, Or.inr rfl, Or.inl rfl, Or.inl rfl, Or.inl rfl, trivial⟩ (ihlp2_3 ((i1 + 1)) m30 hIm30 hFm30   (by omega) (by omega)  (by omega))
  exact lp2_3 _ (0) m0 hI0 hF0   (by omega) (by omega)  (Nat.lt_succ_self _)

set_option maxHeartbeats 8000000 in
theorem th_53 {E : zE} {d : Nat} {m0 : zM} (hd : 1 ≤ d) (hI0 : zInv m0) : zC E d 53 [(2, 1)] m0 (fun v m' => ∃ r : Int, v = (1, r) ∧ (-9223372036854775808) ≤ r ∧ r ≤ 9223372036854775807 ∧ m0 = m') := by
  generalize hQ : (fun (v : zV) (m' : zM) => ∃ r : Int, v = (1, r) ∧ (-9223372036854775808) ≤ r ∧ r ≤ 9223372036854775807 ∧ m0 = m') = Q
  show zW E d 53 0 [(2, 1)] [] m0 Q
  refine zw_push zr_53_0 ?_
  refine zw_7 zr_53_1 rfl ?_
  obtain ⟨f1, ef1⟩ : ∃ v, m0 1 1 = v := ⟨_, rfl⟩
  have bf1 := ib_1_1 hI0
  rw [ef1] at bf1
  refine zw_46i zr_53_2 ef1 rfl rfl rfl ?_
  refine zw_33p zr_53_5 (by omega) ?_
  intro x2 ex2 hx2a hx2b
  refine zw_push zr_53_6 ?_
  refine zw_28 zr_53_7 (by omega) ?_
  refine zw_7 zr_53_8 rfl ?_
  obtain ⟨f3, ef3⟩ : ∃ v, m0 1 2 = v := ⟨_, rfl⟩
  have bf3 := ib_1_2 hI0
  rw [ef3] at bf3
  refine zw_46l zr_53_9 ef3 rfl rfl rfl ?_
  refine zw_push zr_53_12 ?_
  refine zw_32h zr_53_15 ?_
  intro x4 hx4a hx4b
  refine zw_30h zr_53_16 ?_
  intro x5 hx5a hx5b
  refine zw_7 zr_53_17 rfl ?_
  obtain ⟨f6, ef6⟩ : ∃ v, m0 1 3 = v := ⟨_, rfl⟩
  have bf6 := ib_1_3 hI0
  rw [ef6] at bf6
  refine zw_46l zr_53_18 ef6 rfl rfl rfl ?_
  refine zw_push zr_53_21 ?_
  refine zw_32h zr_53_24 ?_
  intro x7 hx7a hx7b
  refine zw_30h zr_53_25 ?_
  intro x8 hx8a hx8b
  refine zw_R zr_53_26 (by decide) zm_53 (v := (1, x8)) rfl ?_
  rw [← hQ]; exact ⟨_, rfl, by omega, by omega, rfl⟩

abbrev W_4_58 : List (Nat × Nat) := [(58, 1000)]
set_option maxHeartbeats 8000000 in
theorem th_4_58 {E : zE} {d : Nat} {m0 : zM} {a0 : Int} (hd : 1 ≤ d) (hI0 : zInv m0) (ha0 : 0 ≤ a0 ∧ a0 ≤ 2147483647) : zC E d 4 [(2, 58), (0, a0)] m0 (fun v m' => v = (9, 0) ∧ zInv m' ∧ zFr W_4_58 m0 m') := by
  have hF0 : zFr W_4_58 m0 m0 := zFr.rfl
  generalize hQ : (fun (v : zV) (m' : zM) => v = (9, 0) ∧ zInv m' ∧ zFr W_4_58 m0 m') = Q
  show zW E d 4 0 [(2, 58), (0, a0), (9, 0), (9, 0)] [] m0 Q
  refine zw_push zr_4_0 ?_
  refine zw_9 (L' := [(2, 58), (0, a0), (0, 0), (9, 0)]) zr_4_1 (Nat.le_of_ble_eq_true rfl) rfl ?_
  refine zw_7 zr_4_2 rfl ?_
  refine zw_101 (c := 58) (len := 10) zr_4_3 rfl rfl (by decide) ?_
  refine zw_9 (L' := [(2, 58), (0, a0), (0, 0), (0, 10)]) zr_4_4 (Nat.le_of_ble_eq_true rfl) rfl ?_
  have lp5_3 : ∀ (nlp5_3 : Nat) (i1 : Int) (m2 : zM), zInv m2 → zFr W_4_58 m0 m2 → 0 ≤ i1 → i1 ≤ 10 → (10 - i1).toNat < nlp5_3 → zW E (d) 4 5 [(2, 58), (0, a0), (0, i1), (0, 10)] [] m2 Q := by
    intro nlp5_3
    induction nlp5_3 with
    | zero =>
      intros
      exact absurd (by assumption : _ < 0) (Nat.not_lt_zero _)
    | succ nlp5_3 ihlp5_3 =>
      intro i1 m2 hIm2 hFm2 li1 ui1 hmlp5_3
      refine zw_3 zr_4_5 rfl ?_
      refine zw_3 zr_4_6 rfl ?_
      refine zw_41_3 zr_4_7 ?_ ?_
      · intro h5
        refine zw_R zr_4_20 (by decide) zm_4 (v := (9, 0)) rfl ?_
        rw [← hQ]; exact ⟨rfl, hIm2, hFm2⟩
      · intro h6
        refine zw_7 zr_4_10 rfl ?_
        refine zw_3 zr_4_11 rfl ?_
        refine zw_3 zr_4_12 rfl ?_
        refine zw_49 (c := 58) (len := 10) zr_4_13 rfl rfl (by omega) (by omega) ?_
        intro m7 em7
        have hIm7 : zInv m7 := by rw [em7]; exact hIm2.any (by omega) rfl (by decide) (by decide)
        have hFm7 : zFr W_4_58 m0 m7 := by rw [em7]; exact hFm2.any rfl
        clear em7
        refine zw_15 (c := 1) (L' := [(2, 58), (0, a0), (0, (i1 + 1)), (0, 10)]) zr_4_14 rfl (by decide) (by omega) rfl ?_
        refine zw_42 zr_4_17 ?_
        exact zw_less (L := [(2, 58), (0, a0), (0, (i1 + 1)), (0, 10)]) ⟨Or.inr rfl, Or.inr rfl, Or.inr rfl, Or.inr rfl, trivial⟩ (ihlp5_3 ((i1 + 1)) m7 hIm7 hFm7   (by omega) (by omega)  (by omega))
  exact lp5_3 _ (0) m0 hI0 hF0   (by omega) (by omega)  (Nat.lt_succ_self _)

abbrev W_4_59 : List (Nat × Nat) := [(59, 1000)]
set_option maxHeartbeats 8000000 in
theorem th_4_59 {E : zE} {d : Nat} {m0 : zM} {a0 : Int} (hd : 1 ≤ d) (hI0 : zInv m0) (ha0 : (-1) ≤ a0 ∧ a0 ≤ (-1)) : zC E d 4 [(2, 59), (0, a0)] m0 (fun v m' => v = (9, 0) ∧ zInv m' ∧ zFr W_4_59 m0 m') := by
  have hF0 : zFr W_4_59 m0 m0 := zFr.rfl
  generalize hQ : (fun (v : zV) (m' : zM) => v = (9, 0) ∧ zInv m' ∧ zFr W_4_59 m0 m') = Q
  show zW E d 4 0 [(2, 59), (0, a0), (9, 0), (9, 0)] [] m0 Q
  refine zw_push zr_4_0 ?_
  refine zw_9 (L' := [(2, 59), (0, a0), (0, 0), (9, 0)]) zr_4_1 (Nat.le_of_ble_eq_true rfl) rfl ?_
  refine zw_7 zr_4_2 rfl ?_
  refine zw_101 (c := 59) (len := 10) zr_4_3 rfl rfl (by decide) ?_
  refine zw_9 (L' := [(2, 59), (0, a0), (0, 0), (0, 10)]) zr_4_4 (Nat.le_of_ble_eq_true rfl) rfl ?_
  have lp5_3 : ∀ (nlp5_3 : Nat) (i1 : Int) (m2 : zM), zInv m2 → zFr W_4_59 m0 m2 → 0 ≤ i1 → i1 ≤ 10 → (10 - i1).toNat < nlp5_3 → zW E (d) 4 5 [(2, 59), (0, a0), (0, i1), (0, 10)] [] m2 Q := by
    intro nlp5_3
    induction nlp5_3 with
    | zero =>
      intros
      exact absurd (by assumption : _ < 0) (Nat.not_lt_zero _)
    | succ nlp5_3 ihlp5_3 =>
      intro i1 m2 hIm2 hFm2 li1 ui1 hmlp5_3
      refine zw_3 zr_4_5 rfl ?_
      refine zw_3 zr_4_6 rfl ?_
      refine zw_41_3 zr_4_7 ?_ ?_
      · intro h5
        refine zw_R zr_4_20 (by decide) zm_4 (v := (9, 0)) rfl ?_
        rw [← hQ]; exact ⟨rfl, hIm2, hFm2⟩
      · intro h6
        refine zw_7 zr_4_10 rfl ?_
        refine zw_3 zr_4_11 rfl ?_
        refine zw_3 zr_4_12 rfl ?_
        refine zw_49 (c := 59) (len := 10) zr_4_13 rfl rfl (by omega) (by omega) ?_
        intro m7 em7
        have hIm7 : zInv m7 := by rw [em7]; exact iu_59 hIm2 (by omega)
        have hFm7 : zFr W_4_59 m0 m7 := by rw [em7]; exact hFm2.any rfl
        clear em7
        refine zw_15 (c := 1) (L' := [(2, 59), (0, a0), (0, (i1 + 1)), (0, 10)]) zr_4_14 rfl (by decide) (by omega) rfl ?_
        refine zw_42 zr_4_17 ?_
        exact zw_less (L := [(2, 59), (0, a0), (0, (i1 + 1)), (0, 10)]) ⟨Or.inr rfl, Or.inr rfl, Or.inr rfl, Or.inr rfl, trivial⟩ (ihlp5_3 ((i1 + 1)) m7 hIm7 hFm7   (by omega) (by omega)  (by omega))
  exact lp5_3 _ (0) m0 hI0 hF0   (by omega) (by omega)  (Nat.lt_succ_self _)

abbrev W_79 : List (Nat × Nat) := [(58, 1000), (59, 1000)]
set_option maxHeartbeats 8000000 in
theorem th_79 {E : zE} {d : Nat} {m0 : zM} {a0 : Int} {a1 : Int} {a2 : Int} {a3 : Int} (hd : 1 ≤ d) (hI0 : zInv m0) (ha0 : 0 ≤ a0 ∧ a0 ≤ 9) (ha1 : 0 ≤ a1 ∧ a1 ≤ 9) (ha2 : (-2147483648) ≤ a2 ∧ a2 ≤ 2147483647) (ha3 : 0 ≤ a3 ∧ a3 ≤ 59) : zC E d 79 [(2, 55), (0, a0), (0, a1), (0, a2), (0, a3)] m0 (fun v m' => ∃ r : Int, v = (0, r) ∧ 0 ≤ r ∧ r ≤ 1 ∧ zInv m' ∧ zFr W_79 m0 m') := by
  have hF0 : zFr W_79 m0 m0 := zFr.rfl
  generalize hQ : (fun (v : zV) (m' : zM) => ∃ r : Int, v = (0, r) ∧ 0 ≤ r ∧ r ≤ 1 ∧ zInv m' ∧ zFr W_79 m0 m') = Q
  show zW E d 79 0 [(2, 55), (0, a0), (0, a1), (0, a2), (0, a3)] [] m0 Q
  refine zw_7 zr_79_0 rfl ?_
  refine zw_46r (s := 58) zr_79_1 rfl rfl rfl rfl ?_
  refine zw_3 zr_79_4 rfl ?_
  refine zw_48 (c := 58) (len := 10) zr_79_5 rfl rfl (by omega) (by omega) ?_
  intro x1 ex1
  have bx1 := hI0.ra (c := 58) (len := 10) (k := (a1).toNat) rfl (by omega)
  rw [← ex1] at bx1
  refine zw_push zr_79_6 ?_
  refine zw_41_1 zr_79_8 ?_ ?_
  · intro h2
    refine zw_push zr_79_28 ?_
    refine zw_R zr_79_29 (by decide) zm_79 (v := (0, 0)) (zRetB (by omega)) ?_
    rw [← hQ]; exact ⟨_, rfl, by omega, by omega, hI0, hF0⟩
  · intro h3
    refine zw_7 zr_79_11 rfl ?_
    refine zw_46r (s := 58) zr_79_12 rfl rfl rfl rfl ?_
    refine zw_3 zr_79_15 rfl ?_
    refine zw_48 (c := 58) (len := 10) zr_79_16 rfl rfl (by omega) (by omega) ?_
    intro x4 ex4
    have bx4 := hI0.ra (c := 58) (len := 10) (k := (a0).toNat) rfl (by omega)
    rw [← ex4] at bx4
    clear ex4
    refine zw_7 zr_79_17 rfl ?_
    refine zw_46r (s := 58) zr_79_18 rfl rfl rfl rfl ?_
    refine zw_3 zr_79_21 rfl ?_
    refine zw_48k (c := 58) (len := 10) zr_79_22 rfl rfl (by omega) (by omega) rfl ex1.symm ?_
    refine zw_3 zr_79_23 rfl ?_
    refine zw_16h zr_79_24 ?_
    intro x5 hx5a hx5b
    refine zw_41_2 zr_79_25 ?_ ?_
    · intro h6
      refine zw_7 zr_79_30 rfl ?_
      refine zw_46r (s := 58) zr_79_31 rfl rfl rfl rfl ?_
      refine zw_3 zr_79_34 rfl ?_
      refine zw_7 zr_79_35 rfl ?_
      refine zw_46r (s := 58) zr_79_36 rfl rfl rfl rfl ?_
      refine zw_3 zr_79_39 rfl ?_
      refine zw_48k (c := 58) (len := 10) zr_79_40 rfl rfl (by omega) (by omega) rfl ex1.symm ?_
      refine zw_3 zr_79_41 rfl ?_
      refine zw_16h zr_79_42 ?_
      intro x7 hx7a hx7b
      refine zw_49 (c := 58) (len := 10) zr_79_43 rfl rfl (by omega) (by omega) ?_
      intro m8 em8
      have hIm8 : zInv m8 := by rw [em8]; exact hI0.any (by omega) rfl (by decide) (by decide)
      have hFm8 : zFr W_79 m0 m8 := by rw [em8]; exact hF0.any rfl
      clear em8
      refine zw_7 zr_79_44 rfl ?_
      refine zw_46r (s := 59) zr_79_45 rfl rfl rfl rfl ?_
      refine zw_3 zr_79_48 rfl ?_
      refine zw_4 zr_79_49 rfl ?_
      refine zw_49 (c := 59) (len := 10) zr_79_51 rfl rfl (by omega) (by omega) ?_
      intro m9 em9
      have hIm9 : zInv m9 := by rw [em9]; exact iu_59 hIm8 (by omega)
      have hFm9 : zFr W_79 m0 m9 := by rw [em9]; exact hFm8.any rfl
      clear em9
      refine zw_push zr_79_52 ?_
      refine zw_R zr_79_53 (by decide) zm_79 (v := (0, 1)) (zRetB (by omega)) ?_
      rw [← hQ]; exact ⟨_, rfl, by omega, by omega, hIm9, hFm9⟩
    · intro h10
      refine zw_push zr_79_28 ?_
      refine zw_R zr_79_29 (by decide) zm_79 (v := (0, 0)) (zRetB (by omega)) ?_
      rw [← hQ]; exact ⟨_, rfl, by omega, by omega, hI0, hF0⟩

abbrev W_80 : List (Nat × Nat) := [(58, 1000), (59, 1000)]
set_option maxHeartbeats 8000000 in
theorem th_80 {E : zE} {d : Nat} {m0 : zM} {a0 : Int} (hd : 2 ≤ d) (hI0 : zInv m0) (ha0 : (-9223372036854775808) ≤ a0 ∧ a0 ≤ 9223372036854775807) : zC E d 80 [(2, 55), (1, a0)] m0 (fun v m' => ∃ r : Int, v = (0, r) ∧ 0 ≤ r ∧ r ≤ 1 ∧ zInv m' ∧ zFr W_80 m0 m') := by
  have hF0 : zFr W_80 m0 m0 := zFr.rfl
  generalize hQ : (fun (v : zV) (m' : zM) => ∃ r : Int, v = (0, r) ∧ 0 ≤ r ∧ r ≤ 1 ∧ zInv m' ∧ zFr W_80 m0 m') = Q
  show zW E d 80 0 [(2, 55), (1, a0), (9, 0), (9, 0), (9, 0), (9, 0), (9, 0), (9, 0), (9, 0)] [] m0 Q
  refine zw_push zr_80_0 ?_
  refine zw_9 (L' := [(2, 55), (1, a0), (9, 0), (0, 0), (9, 0), (9, 0), (9, 0), (9, 0), (9, 0)]) zr_80_1 (Nat.le_of_ble_eq_true rfl) rfl ?_
  refine zw_push zr_80_2 ?_
  refine zw_10 (L' := [(2, 55), (1, a0), (9, 0), (0, 0), (0, 0), (9, 0), (9, 0), (9, 0), (9, 0)]) zr_80_3 (Nat.le_of_ble_eq_true rfl) rfl ?_
  have lp5_4 : ∀ (nlp5_4 : Nat) (i1 i2 : Int) (m3 : zM), zInv m3 → zFr W_80 m0 m3 → 0 ≤ i1 → i1 ≤ 1 → 0 ≤ i2 → i2 ≤ 60 → (60 - i2).toNat < nlp5_4 → zW E (d) 80 5 [(2, 55), (1, a0), (9, 0), (0, i1), (0, i2), (9, 0), (9, 0), (9, 0), (9, 0)] [] m3 Q := by
    intro nlp5_4
    induction nlp5_4 with
    | zero =>
      intros
      exact absurd (by assumption : _ < 0) (Nat.not_lt_zero _)
    | succ nlp5_4 ihlp5_4 =>
      intro i1 i2 m3 hIm3 hFm3 li1 ui1 li2 ui2 hmlp5_4
      refine zw_4 zr_80_5 rfl ?_
      refine zw_7 zr_80_7 rfl ?_
      refine zw_46r (s := 1) zr_80_8 rfl rfl rfl rfl ?_
      obtain ⟨f6, ef6⟩ : ∃ v, m3 1 1 = v := ⟨_, rfl⟩
      have bf6 := ib_1_1 hIm3
      rw [ef6] at bf6
      refine zw_46i zr_80_11 ef6 rfl rfl rfl ?_
      refine zw_41_3 zr_80_14 ?_ ?_
      · intro h7
        refine zw_3 zr_80_117 rfl ?_
        refine zw_R zr_80_118 (by decide) zm_80 (v := (0, i1)) (zRetB (by omega)) ?_
        rw [← hQ]; exact ⟨_, rfl, by omega, by omega, hIm3, hFm3⟩
      · intro h8
        refine zw_5 zr_80_17 rfl ?_
        refine zw_4 zr_80_18 rfl ?_
        refine zw_34h zr_80_20 ?_
        intro x9 hx9a hx9b
        refine zw_push zr_80_21 ?_
        refine zw_30h zr_80_22 ?_
        intro x10 hx10a hx10b
        refine zw_push zr_80_23 ?_
        refine zw_39_1 zr_80_24 zr_80_25 ?_ ?_
        · intro h11
          refine zw_15 (c := 1) (L' := [(2, 55), (1, a0), (9, 0), (0, i1), (0, (i2 + 1)), (9, 0), (9, 0), (9, 0), (9, 0)]) zr_80_111 rfl (by decide) (by omega) rfl ?_
          refine zw_42 zr_80_114 ?_
          exact zw_less (L := [(2, 55), (1, a0), (9, 0), (0, i1), (0, (i2 + 1)), (9, 0), (9, 0), (9, 0), (9, 0)]) ⟨Or.inr rfl, Or.inr rfl, Or.inl rfl, Or.inr rfl, Or.inr rfl, Or.inl rfl, Or.inl rfl, Or.inl rfl, Or.inl rfl, trivial⟩ (ihlp5_4 (i1) ((i2 + 1)) m3 hIm3 hFm3   (by omega) (by omega) (by omega) (by omega)  (by omega))
        · intro h12
          refine zw_7 zr_80_28 rfl ?_
          refine zw_46r (s := 1) zr_80_29 rfl rfl rfl rfl ?_
          refine zw_46r (s := 6) zr_80_32 rfl rfl rfl rfl ?_
          refine zw_4 zr_80_35 rfl ?_
          refine zw_48 (c := 6) (len := 60) zr_80_37 rfl rfl (by omega) (by omega) ?_
          intro x13 ex13
          have bx13 := ib_6 hIm3 (k := (i2).toNat) (by omega)
          rw [← ex13] at bx13
          clear ex13
          refine zw_10 (L' := [(2, 55), (1, a0), (9, 0), (0, i1), (0, i2), (0, x13), (9, 0), (9, 0), (9, 0)]) zr_80_38 (Nat.le_of_ble_eq_true rfl) rfl ?_
          refine zw_7 zr_80_40 rfl ?_
          refine zw_46r (s := 1) zr_80_41 rfl rfl rfl rfl ?_
          refine zw_46r (s := 7) zr_80_44 rfl rfl rfl rfl ?_
          refine zw_4 zr_80_47 rfl ?_
          refine zw_48 (c := 7) (len := 60) zr_80_49 rfl rfl (by omega) (by omega) ?_
          intro x14 ex14
          have bx14 := ib_7 hIm3 (k := (i2).toNat) (by omega)
          rw [← ex14] at bx14
          clear ex14
          refine zw_10 (L' := [(2, 55), (1, a0), (9, 0), (0, i1), (0, i2), (0, x13), (0, x14), (9, 0), (9, 0)]) zr_80_50 (Nat.le_of_ble_eq_true rfl) rfl ?_
          refine zw_7 zr_80_52 rfl ?_
          refine zw_4 zr_80_53 rfl ?_
          refine zw_4 zr_80_55 rfl ?_
          refine zw_7 zr_80_57 rfl ?_
          refine zw_46r (s := 57) zr_80_58 rfl rfl rfl rfl ?_
          refine zw_4 zr_80_61 rfl ?_
          refine zw_48 (c := 57) (len := 60) zr_80_63 rfl rfl (by omega) (by omega) ?_
          intro x15 ex15
          have bx15 := hIm3.ra (c := 57) (len := 60) (k := (i2).toNat) rfl (by omega)
          rw [← ex15] at bx15
          clear ex15
          refine zw_4 zr_80_64 rfl ?_
          refine zw_C zr_80_66 (Or.inl rfl) zm_79 rfl rfl ⟨Nat.le_of_ble_eq_true rfl, Nat.le_of_ble_eq_true rfl, Nat.le_of_ble_eq_true rfl, rfl, by decide⟩ (by omega) (th_79 (d := d - 1) (by omega) hIm3 (a0 := x13) (a1 := x14) (a2 := x15) (a3 := i2)      (by omega) (by omega) (by omega) (by omega) ) ?_
          rintro _ m16 ⟨r17, rfl, hr17a, hr17b, hIm16, gm16⟩
          have hFm16 : zFr W_80 m0 m16 := hFm3.trans gm16 rfl
          have km16_1_1 : m16 1 1 = f6 := (gm16 1 1 rfl).trans ef6
          show zW E (d) 80 69 [(2, 55), (1, a0), (9, 0), (0, i1), (0, i2), (0, x13), (0, x14), (9, 0), (9, 0)] [(0, r17)] m16 Q
          refine zw_10 (L' := [(2, 55), (1, a0), (9, 0), (0, i1), (0, i2), (0, x13), (0, x14), (0, r17), (9, 0)]) zr_80_69 (Nat.le_of_ble_eq_true rfl) rfl ?_
          refine zw_7 zr_80_71 rfl ?_
          refine zw_4 zr_80_72 rfl ?_
          refine zw_4 zr_80_74 rfl ?_
          refine zw_7 zr_80_76 rfl ?_
          refine zw_46r (s := 56) zr_80_77 rfl rfl rfl rfl ?_
          refine zw_4 zr_80_80 rfl ?_
          refine zw_48 (c := 56) (len := 60) zr_80_82 rfl rfl (by omega) (by omega) ?_
          intro x18 ex18
          have bx18 := hIm16.ra (c := 56) (len := 60) (k := (i2).toNat) rfl (by omega)
          rw [← ex18] at bx18
          clear ex18
          refine zw_38h zr_80_83 ?_
          intro x19 hx19a hx19b
          refine zw_4 zr_80_84 rfl ?_
          refine zw_C zr_80_86 (Or.inl rfl) zm_79 rfl rfl ⟨Nat.le_of_ble_eq_true rfl, Nat.le_of_ble_eq_true rfl, Nat.le_of_ble_eq_true rfl, rfl, by decide⟩ (by omega) (th_79 (d := d - 1) (by omega) hIm16 (a0 := x14) (a1 := x13) (a2 := x19) (a3 := i2)      (by omega) (by omega) (by omega) (by omega) ) ?_
          rintro _ m20 ⟨r21, rfl, hr21a, hr21b, hIm20, gm20⟩
          have hFm20 : zFr W_80 m0 m20 := hFm16.trans gm20 rfl
          have km20_1_1 : m20 1 1 = f6 := (gm20 1 1 rfl).trans km16_1_1
          show zW E (d) 80 89 [(2, 55), (1, a0), (9, 0), (0, i1), (0, i2), (0, x13), (0, x14), (0, r17), (9, 0)] [(0, r21)] m20 Q
          refine zw_10 (L' := [(2, 55), (1, a0), (9, 0), (0, i1), (0, i2), (0, x13), (0, x14), (0, r17), (0, r21)]) zr_80_89 (Nat.le_of_ble_eq_true rfl) rfl ?_
          refine zw_3 zr_80_91 rfl ?_
          refine zw_40_4 zr_80_92 ?_ ?_
          · intro h22
            refine zw_push zr_80_105 ?_
            refine zw_42 zr_80_106 ?_
            refine zw_9 (L' := [(2, 55), (1, a0), (9, 0), (0, 1), (0, i2), (0, x13), (0, x14), (0, r17), (0, r21)]) zr_80_110 (Nat.le_of_ble_eq_true rfl) rfl ?_
            refine zw_15 (c := 1) (L' := [(2, 55), (1, a0), (9, 0), (0, 1), (0, (i2 + 1)), (0, x13), (0, x14), (0, r17), (0, r21)]) zr_80_111 rfl (by decide) (by omega) rfl ?_
            refine zw_42 zr_80_114 ?_
            exact zw_less (L := [(2, 55), (1, a0), (9, 0), (0, 1), (0, (i2 + 1)), (9, 0), (9, 0), (9, 0), (9, 0)]) ⟨Or.inr rfl, Or.inr rfl, Or.inl rfl, Or.inr rfl, Or.inr rfl, Or.inl rfl, Or.inl rfl, Or.inl rfl, Or.inl rfl, trivial⟩ (ihlp5_4 (1) ((i2 + 1)) m20 hIm20 hFm20   (by omega) (by omega) (by omega) (by omega)  (by omega))
          · intro h23
            refine zw_4 zr_80_95 rfl ?_
            refine zw_40_4 zr_80_97 ?_ ?_
            · intro h24
              refine zw_push zr_80_105 ?_
              refine zw_42 zr_80_106 ?_
              refine zw_9 (L' := [(2, 55), (1, a0), (9, 0), (0, 1), (0, i2), (0, x13), (0, x14), (0, r17), (0, r21)]) zr_80_110 (Nat.le_of_ble_eq_true rfl) rfl ?_
              refine zw_15 (c := 1) (L' := [(2, 55), (1, a0), (9, 0), (0, 1), (0, (i2 + 1)), (0, x13), (0, x14), (0, r17), (0, r21)]) zr_80_111 rfl (by decide) (by omega) rfl ?_
              refine zw_42 zr_80_114 ?_
              exact zw_less (L := [(2, 55), (1, a0), (9, 0), (0, 1), (0, (i2 + 1)), (9, 0), (9, 0), (9, 0), (9, 0)]) ⟨Or.inr rfl, Or.inr rfl, Or.inl rfl, Or.inr rfl, Or.inr rfl, Or.inl rfl, Or.inl rfl, Or.inl rfl, Or.inl rfl, trivial⟩ (ihlp5_4 (1) ((i2 + 1)) m20 hIm20 hFm20   (by omega) (by omega) (by omega) (by omega)  (by omega))
            · intro h25
              refine zw_4 zr_80_100 rfl ?_
              refine zw_40_1 zr_80_102 ?_ ?_
              · intro h26
                refine zw_push zr_80_109 ?_
                refine zw_9 (L' := [(2, 55), (1, a0), (9, 0), (0, 0), (0, i2), (0, x13), (0, x14), (0, r17), (0, r21)]) zr_80_110 (Nat.le_of_ble_eq_true rfl) rfl ?_
                refine zw_15 (c := 1) (L' := [(2, 55), (1, a0), (9, 0), (0, 0), (0, (i2 + 1)), (0, x13), (0, x14), (0, r17), (0, r21)]) zr_80_111 rfl (by decide) (by omega) rfl ?_
                refine zw_42 zr_80_114 ?_
                exact zw_less (L := [(2, 55), (1, a0), (9, 0), (0, 0), (0, (i2 + 1)), (9, 0), (9, 0), (9, 0), (9, 0)]) ⟨Or.inr rfl, Or.inr rfl, Or.inl rfl, Or.inr rfl, Or.inr rfl, Or.inl rfl, Or.inl rfl, Or.inl rfl, Or.inl rfl, trivial⟩ (ihlp5_4 (0) ((i2 + 1)) m20 hIm20 hFm20   (by omega) (by omega) (by omega) (by omega)  (by omega))
              · intro h27
                refine zw_push zr_80_105 ?_
                refine zw_42 zr_80_106 ?_
                refine zw_9 (L' := [(2, 55), (1, a0), (9, 0), (0, 1), (0, i2), (0, x13), (0, x14), (0, r17), (0, r21)]) zr_80_110 (Nat.le_of_ble_eq_true rfl) rfl ?_
                refine zw_15 (c := 1) (L' := [(2, 55), (1, a0), (9, 0), (0, 1), (0, (i2 + 1)), (0, x13), (0, x14), (0, r17), (0, r21)]) zr_80_111 rfl (by decide) (by omega) rfl ?_
                refine zw_42 zr_80_114 ?_
                exact zw_less (L := [(2, 55), (1, a0), (9, 0), (0, 1), (0, (i2 + 1)), (9, 0), (9, 0), (9, 0), (9, 0)]) ⟨Or.inr rfl, Or.inr rfl, Or.inl rfl, Or.inr rfl, Or.inr rfl, Or.inl rfl, Or.inl rfl, Or.inl rfl, Or.inl rfl, trivial⟩ (ihlp5_4 (1) ((i2 + 1)) m20 hIm20 hFm20   (by omega) (by omega) (by omega) (by omega)  (by omega))
  exact lp5_4 _ (0) (0) m0 hI0 hF0   (by omega) (by omega) (by omega) (by omega)  (Nat.lt_succ_self _)

set_option maxHeartbeats 8000000 in
theorem th_81 {E : zE} {d : Nat} {m0 : zM} {a0 : Int} (hd : 2 ≤ d) (hI0 : zInv m0) (ha0 : 0 ≤ a0 ∧ a0 ≤ 9) : zC E d 81 [(2, 55), (0, a0)] m0 (fun v m' => ∃ r : Int, v = (1, r) ∧ (-9223372036854775808) ≤ r ∧ r ≤ 9223372036854775807 ∧ m0 = m') := by
  generalize hQ : (fun (v : zV) (m' : zM) => ∃ r : Int, v = (1, r) ∧ (-9223372036854775808) ≤ r ∧ r ≤ 9223372036854775807 ∧ m0 = m') = Q
  show zW E d 81 0 [(2, 55), (0, a0), (9, 0), (9, 0), (9, 0), (9, 0)] [] m0 Q
  refine zw_push zr_81_0 ?_
  refine zw_13 (L' := [(2, 55), (0, a0), (1, 0), (9, 0), (9, 0), (9, 0)]) zr_81_1 (Nat.le_of_ble_eq_true rfl) rfl ?_
  refine zw_3 zr_81_2 rfl ?_
  refine zw_10 (L' := [(2, 55), (0, a0), (1, 0), (9, 0), (0, a0), (9, 0)]) zr_81_3 (Nat.le_of_ble_eq_true rfl) rfl ?_
  refine zw_push zr_81_5 ?_
  refine zw_10 (L' := [(2, 55), (0, a0), (1, 0), (9, 0), (0, a0), (0, 0)]) zr_81_6 (Nat.le_of_ble_eq_true rfl) rfl ?_
  have lp8_4 : ∀ (nlp8_4 : Nat) (i1 i2 i3 : Int), (-9223372036854775808) ≤ i1 → i1 ≤ 9223372036854775807 → 0 ≤ i2 → i2 ≤ 9 → 0 ≤ i3 → i3 ≤ 10 → (10 - i3).toNat < nlp8_4 → zW E (d) 81 8 [(2, 55), (0, a0), (1, i1), (9, 0), (0, i2), (0, i3)] [] m0 Q := by
    intro nlp8_4
    induction nlp8_4 with
    | zero =>
      intros
      exact absurd (by assumption : _ < 0) (Nat.not_lt_zero _)
    | succ nlp8_4 ihlp8_4 =>
      intro i1 i2 i3 li1 ui1 li2 ui2 li3 ui3 hmlp8_4
      refine zw_4 zr_81_8 rfl ?_
      refine zw_push zr_81_10 ?_
      refine zw_41_3 zr_81_12 ?_ ?_
      · intro h6
        refine zw_5 zr_81_70 rfl ?_
        refine zw_R zr_81_71 (by decide) zm_81 (v := (1, i1)) rfl ?_
        rw [← hQ]; exact ⟨_, rfl, by omega, by omega, rfl⟩
      · intro h7
        refine zw_7 zr_81_15 rfl ?_
        refine zw_46r (s := 59) zr_81_16 rfl rfl rfl rfl ?_
        refine zw_4 zr_81_19 rfl ?_
        refine zw_48 (c := 59) (len := 10) zr_81_21 rfl rfl (by omega) (by omega) ?_
        intro x8 ex8
        have bx8 := ib_59 hI0 (k := (i2).toNat) (by omega)
        rw [← ex8] at bx8
        refine zw_push zr_81_22 ?_
        refine zw_41_1 zr_81_23 ?_ ?_
        · intro h9
          refine zw_5 zr_81_70 rfl ?_
          refine zw_R zr_81_71 (by decide) zm_81 (v := (1, i1)) rfl ?_
          rw [← hQ]; exact ⟨_, rfl, by omega, by omega, rfl⟩
        · intro h10
          refine zw_5 zr_81_26 rfl ?_
          refine zw_push zr_81_27 ?_
          refine zw_7 zr_81_28 rfl ?_
          refine zw_46r (s := 59) zr_81_29 rfl rfl rfl rfl ?_
          refine zw_4 zr_81_32 rfl ?_
          refine zw_48k (c := 59) (len := 10) zr_81_34 rfl rfl (by omega) (by omega) rfl ex8.symm ?_
          refine zw_33p zr_81_35 (by omega) ?_
          intro x11 ex11 hx11a hx11b
          refine zw_31h zr_81_36 ?_
          intro x12 hx12a hx12b
          refine zw_13 (L' := [(2, 55), (0, a0), (1, x12), (9, 0), (0, i2), (0, i3)]) zr_81_37 (Nat.le_of_ble_eq_true rfl) rfl ?_
          refine zw_7 zr_81_38 rfl ?_
          refine zw_46r (s := 1) zr_81_39 rfl rfl rfl rfl ?_
          refine zw_7 zr_81_42 rfl ?_
          refine zw_46r (s := 59) zr_81_43 rfl rfl rfl rfl ?_
          refine zw_4 zr_81_46 rfl ?_
          refine zw_48k (c := 59) (len := 10) zr_81_48 rfl rfl (by omega) (by omega) rfl ex8.symm ?_
          refine zw_4 zr_81_49 rfl ?_
          refine zw_C zr_81_51 (Or.inl rfl) zm_54 rfl rfl ⟨Nat.le_of_ble_eq_true rfl, Nat.le_of_ble_eq_true rfl, Nat.le_of_ble_eq_true rfl, rfl, by decide⟩ (by omega) (P := (fun v m' => zW E (d) 81 54 [(2, 55), (0, a0), (1, x12), (9, 0), (0, i2), (0, i3)] (if v.1 = 9 then [] else v :: []) m' Q)) ?_ (fun _ _ h => h)
          generalize hQ1 : (fun v m' => zW E (d) 81 54 [(2, 55), (0, a0), (1, x12), (9, 0), (0, i2), (0, i3)] (if v.1 = 9 then [] else v :: []) m' Q) = Q1
          show zW E (d - 1) 54 0 [(2, 1), (0, x8), (0, i2)] [] m0 Q1
          refine zw_7 zr_54_0 rfl ?_
          refine zw_46r (s := 6) zr_54_1 rfl rfl rfl rfl ?_
          refine zw_3 zr_54_4 rfl ?_
          refine zw_48 (c := 6) (len := 60) zr_54_5 rfl rfl (by omega) (by omega) ?_
          intro x13 ex13
          have bx13 := ib_6 hI0 (k := (x8).toNat) (by omega)
          rw [← ex13] at bx13
          refine zw_3 zr_54_6 rfl ?_
          refine zw_41_4 zr_54_7 ?_ ?_
          · intro h14
            refine zw_7 zr_54_19 rfl ?_
            refine zw_46r (s := 6) zr_54_20 rfl rfl rfl rfl ?_
            refine zw_3 zr_54_23 rfl ?_
            refine zw_48k (c := 6) (len := 60) zr_54_24 rfl rfl (by omega) (by omega) rfl ex13.symm ?_
            refine zw_R zr_54_25 (by decide) zm_54 (v := (0, x13)) rfl ?_
            rw [← hQ1]
            show zW E (d) 81 54 [(2, 55), (0, a0), (1, x12), (9, 0), (0, i2), (0, i3)] [(0, x13)] m0 Q
            refine zw_10 (L' := [(2, 55), (0, a0), (1, x12), (9, 0), (0, x13), (0, i3)]) zr_81_54 (Nat.le_of_ble_eq_true rfl) rfl ?_
            refine zw_4 zr_81_56 rfl ?_
            refine zw_3 zr_81_58 rfl ?_
            refine zw_41_4 zr_81_59 ?_ ?_
            · intro h15
              refine zw_15 (c := 1) (L' := [(2, 55), (0, a0), (1, x12), (9, 0), (0, x13), (0, (i3 + 1))]) zr_81_64 rfl (by decide) (by omega) rfl ?_
              refine zw_42 zr_81_67 ?_
              exact zw_less (L := [(2, 55), (0, a0), (1, x12), (9, 0), (0, x13), (0, (i3 + 1))]) ⟨Or.inr rfl, Or.inr rfl, Or.inr rfl, Or.inl rfl, Or.inr rfl, Or.inr rfl, trivial⟩ (ihlp8_4 (x12) (x13) ((i3 + 1))  (by omega) (by omega) (by omega) (by omega) (by omega) (by omega)  (by omega))
            · intro h16
              refine zw_5 zr_81_62 rfl ?_
              refine zw_R zr_81_63 (by decide) zm_81 (v := (1, x12)) rfl ?_
              rw [← hQ]; exact ⟨_, rfl, by omega, by omega, rfl⟩
          · intro h17
            refine zw_7 zr_54_10 rfl ?_
            refine zw_46r (s := 7) zr_54_11 rfl rfl rfl rfl ?_
            refine zw_3 zr_54_14 rfl ?_
            refine zw_48 (c := 7) (len := 60) zr_54_15 rfl rfl (by omega) (by omega) ?_
            intro x18 ex18
            have bx18 := ib_7 hI0 (k := (x8).toNat) (by omega)
            rw [← ex18] at bx18
            clear ex18
            refine zw_42 zr_54_16 ?_
            refine zw_R zr_54_25 (by decide) zm_54 (v := (0, x18)) rfl ?_
            rw [← hQ1]
            show zW E (d) 81 54 [(2, 55), (0, a0), (1, x12), (9, 0), (0, i2), (0, i3)] [(0, x18)] m0 Q
            refine zw_10 (L' := [(2, 55), (0, a0), (1, x12), (9, 0), (0, x18), (0, i3)]) zr_81_54 (Nat.le_of_ble_eq_true rfl) rfl ?_
            refine zw_4 zr_81_56 rfl ?_
            refine zw_3 zr_81_58 rfl ?_
            refine zw_41_4 zr_81_59 ?_ ?_
            · intro h19
              refine zw_15 (c := 1) (L' := [(2, 55), (0, a0), (1, x12), (9, 0), (0, x18), (0, (i3 + 1))]) zr_81_64 rfl (by decide) (by omega) rfl ?_
              refine zw_42 zr_81_67 ?_
              exact zw_less (L := [(2, 55), (0, a0), (1, x12), (9, 0), (0, x18), (0, (i3 + 1))]) ⟨Or.inr rfl, Or.inr rfl, Or.inr rfl, Or.inl rfl, Or.inr rfl, Or.inr rfl, trivial⟩ (ihlp8_4 (x12) (x18) ((i3 + 1))  (by omega) (by omega) (by omega) (by omega) (by omega) (by omega)  (by omega))
            · intro h20
              refine zw_5 zr_81_62 rfl ?_
              refine zw_R zr_81_63 (by decide) zm_81 (v := (1, x12)) rfl ?_
              rw [← hQ]; exact ⟨_, rfl, by omega, by omega, rfl⟩
  exact lp8_4 _ (0) (a0) (0)  (by omega) (by omega) (by omega) (by omega) (by omega) (by omega)  (Nat.lt_succ_self _)

set_option maxHeartbeats 8000000 in
theorem th_82 {E : zE} {d : Nat} {m0 : zM} (hd : 3 ≤ d) (hI0 : zInv m0) : zC E d 82 [(2, 55)] m0 (fun v m' => ∃ r : Int, v = (1, r) ∧ (-9223372036854775808) ≤ r ∧ r ≤ 9223372036854775807 ∧ m0 = m') := by
  generalize hQ : (fun (v : zV) (m' : zM) => ∃ r : Int, v = (1, r) ∧ (-9223372036854775808) ≤ r ∧ r ≤ 9223372036854775807 ∧ m0 = m') = Q
  show zW E d 82 0 [(2, 55), (9, 0), (9, 0), (9, 0)] [] m0 Q
  refine zw_push zr_82_0 ?_
  refine zw_9 (L' := [(2, 55), (0, 0), (9, 0), (9, 0)]) zr_82_1 (Nat.le_of_ble_eq_true rfl) rfl ?_
  have lp2_2 : ∀ (nlp2_2 : Nat) (i1 : Int), 0 ≤ i1 → i1 ≤ 10 → (10 - i1).toNat < nlp2_2 → zW E (d) 82 2 [(2, 55), (0, i1), (9, 0), (9, 0)] [] m0 Q := by
    intro nlp2_2
    induction nlp2_2 with
    | zero =>
      intros
      exact absurd (by assumption : _ < 0) (Nat.not_lt_zero _)
    | succ nlp2_2 ihlp2_2 =>
      intro i1 li1 ui1 hmlp2_2
      refine zw_3 zr_82_2 rfl ?_
      refine zw_7 zr_82_3 rfl ?_
      refine zw_46r (s := 1) zr_82_4 rfl rfl rfl rfl ?_
      obtain ⟨f4, ef4⟩ : ∃ v, m0 1 0 = v := ⟨_, rfl⟩
      have bf4 := ib_1_0 hI0
      rw [ef4] at bf4
      refine zw_46i zr_82_7 ef4 rfl rfl rfl ?_
      refine zw_41_3 zr_82_10 ?_ ?_
      · intro h5
        refine zw_push zr_82_76 ?_
        refine zw_R zr_82_77 (by decide) zm_82 (v := (1, 0)) rfl ?_
        rw [← hQ]; exact ⟨_, rfl, by omega, by omega, rfl⟩
      · intro h6
        refine zw_3 zr_82_13 rfl ?_
        refine zw_9 (L' := [(2, 55), (0, i1), (0, i1), (9, 0)]) zr_82_14 (Nat.le_of_ble_eq_true rfl) rfl ?_
        refine zw_push zr_82_15 ?_
        refine zw_9 (L' := [(2, 55), (0, i1), (0, i1), (0, 0)]) zr_82_16 (Nat.le_of_ble_eq_true rfl) rfl ?_
        have lp17_9 : ∀ (nlp17_9 : Nat) (i7 i8 : Int), 0 ≤ i7 → i7 ≤ 9 → 0 ≤ i8 → i8 ≤ 10 → (10 - i8).toNat < nlp17_9 → zW E (d) 82 17 [(2, 55), (0, i1), (0, i7), (0, i8)] [] m0 Q := by
          intro nlp17_9
          induction nlp17_9 with
          | zero =>
            intros
            exact absurd (by assumption : _ < 0) (Nat.not_lt_zero _)
          | succ nlp17_9 ihlp17_9 =>
            intro i7 i8 li7 ui7 li8 ui8 hmlp17_9
            refine zw_3 zr_82_17 rfl ?_
            refine zw_push zr_82_18 ?_
            refine zw_41_3 zr_82_20 ?_ ?_
            · intro h11
              refine zw_7 zr_82_54 rfl ?_
              refine zw_46r (s := 59) zr_82_55 rfl rfl rfl rfl ?_
              refine zw_3 zr_82_58 rfl ?_
              refine zw_48 (c := 59) (len := 10) zr_82_59 rfl rfl (by omega) (by omega) ?_
              intro x12 ex12
              have bx12 := ib_59 hI0 (k := (i7).toNat) (by omega)
              rw [← ex12] at bx12
              clear ex12
              refine zw_push zr_82_60 ?_
              refine zw_41_1 zr_82_61 ?_ ?_
              · intro h13
                refine zw_15 (c := 1) (L' := [(2, 55), (0, (i1 + 1)), (0, i7), (0, i8)]) zr_82_70 rfl (by decide) (by omega) rfl ?_
                refine zw_42 zr_82_73 ?_
                exact zw_less (L := [(2, 55), (0, (i1 + 1)), (9, 0), (9, 0)]) ⟨Or.inr rfl, Or.inr rfl, Or.inl rfl, Or.inl rfl, trivial⟩ (ihlp2_2 ((i1 + 1))  (by omega) (by omega)  (by omega))
              · intro h14
                refine zw_7 zr_82_64 rfl ?_
                refine zw_3 zr_82_65 rfl ?_
                refine zw_C zr_82_66 (Or.inl rfl) zm_81 rfl rfl ⟨Nat.le_of_ble_eq_true rfl, Nat.le_of_ble_eq_true rfl, Nat.le_of_ble_eq_true rfl, rfl, by decide⟩ (by omega) (th_81 (d := d - 1) (by omega) hI0 (a0 := i7)      (by omega) ) ?_
                rintro _ _ ⟨r15, rfl, hr15a, hr15b, rfl⟩
                show zW E (d) 82 69 [(2, 55), (0, i1), (0, i7), (0, i8)] [(1, r15)] m0 Q
                refine zw_R zr_82_69 (by decide) zm_82 (v := (1, r15)) rfl ?_
                rw [← hQ]; exact ⟨_, rfl, by omega, by omega, rfl⟩
            · intro h16
              refine zw_7 zr_82_23 rfl ?_
              refine zw_46r (s := 59) zr_82_24 rfl rfl rfl rfl ?_
              refine zw_3 zr_82_27 rfl ?_
              refine zw_48 (c := 59) (len := 10) zr_82_28 rfl rfl (by omega) (by omega) ?_
              intro x17 ex17
              have bx17 := ib_59 hI0 (k := (i7).toNat) (by omega)
              rw [← ex17] at bx17
              refine zw_push zr_82_29 ?_
              refine zw_41_1 zr_82_30 ?_ ?_
              · intro h18
                refine zw_7 zr_82_54 rfl ?_
                refine zw_46r (s := 59) zr_82_55 rfl rfl rfl rfl ?_
                refine zw_3 zr_82_58 rfl ?_
                refine zw_48k (c := 59) (len := 10) zr_82_59 rfl rfl (by omega) (by omega) rfl ex17.symm ?_
                refine zw_push zr_82_60 ?_
                refine zw_41_1 zr_82_61 ?_ ?_
                · intro h19
                  refine zw_15 (c := 1) (L' := [(2, 55), (0, (i1 + 1)), (0, i7), (0, i8)]) zr_82_70 rfl (by decide) (by omega) rfl ?_
                  refine zw_42 zr_82_73 ?_
                  exact zw_less (L := [(2, 55), (0, (i1 + 1)), (9, 0), (9, 0)]) ⟨Or.inr rfl, Or.inr rfl, Or.inl rfl, Or.inl rfl, trivial⟩ (ihlp2_2 ((i1 + 1))  (by omega) (by omega)  (by omega))
                · intro h20; omega
              · intro h21
                refine zw_7 zr_82_33 rfl ?_
                refine zw_46r (s := 1) zr_82_34 rfl rfl rfl rfl ?_
                refine zw_7 zr_82_37 rfl ?_
                refine zw_46r (s := 59) zr_82_38 rfl rfl rfl rfl ?_
                refine zw_3 zr_82_41 rfl ?_
                refine zw_48k (c := 59) (len := 10) zr_82_42 rfl rfl (by omega) (by omega) rfl ex17.symm ?_
                refine zw_3 zr_82_43 rfl ?_
                refine zw_C zr_82_44 (Or.inl rfl) zm_54 rfl rfl ⟨Nat.le_of_ble_eq_true rfl, Nat.le_of_ble_eq_true rfl, Nat.le_of_ble_eq_true rfl, rfl, by decide⟩ (by omega) (P := (fun v m' => zW E (d) 82 47 [(2, 55), (0, i1), (0, i7), (0, i8)] (if v.1 = 9 then [] else v :: []) m' Q)) ?_ (fun _ _ h => h)
                generalize hQ1 : (fun v m' => zW E (d) 82 47 [(2, 55), (0, i1), (0, i7), (0, i8)] (if v.1 = 9 then [] else v :: []) m' Q) = Q1
                show zW E (d - 1) 54 0 [(2, 1), (0, x17), (0, i7)] [] m0 Q1
                refine zw_7 zr_54_0 rfl ?_
                refine zw_46r (s := 6) zr_54_1 rfl rfl rfl rfl ?_
                refine zw_3 zr_54_4 rfl ?_
                refine zw_48 (c := 6) (len := 60) zr_54_5 rfl rfl (by omega) (by omega) ?_
                intro x22 ex22
                have bx22 := ib_6 hI0 (k := (x17).toNat) (by omega)
                rw [← ex22] at bx22
                refine zw_3 zr_54_6 rfl ?_
                refine zw_41_4 zr_54_7 ?_ ?_
                · intro h23
                  refine zw_7 zr_54_19 rfl ?_
                  refine zw_46r (s := 6) zr_54_20 rfl rfl rfl rfl ?_
                  refine zw_3 zr_54_23 rfl ?_
                  refine zw_48k (c := 6) (len := 60) zr_54_24 rfl rfl (by omega) (by omega) rfl ex22.symm ?_
                  refine zw_R zr_54_25 (by decide) zm_54 (v := (0, x22)) rfl ?_
                  rw [← hQ1]
                  show zW E (d) 82 47 [(2, 55), (0, i1), (0, i7), (0, i8)] [(0, x22)] m0 Q
                  refine zw_9 (L' := [(2, 55), (0, i1), (0, x22), (0, i8)]) zr_82_47 (Nat.le_of_ble_eq_true rfl) rfl ?_
                  refine zw_15 (c := 1) (L' := [(2, 55), (0, i1), (0, x22), (0, (i8 + 1))]) zr_82_48 rfl (by decide) (by omega) rfl ?_
                  refine zw_42 zr_82_51 ?_
                  exact zw_less (L := [(2, 55), (0, i1), (0, x22), (0, (i8 + 1))]) ⟨Or.inr rfl, Or.inr rfl, Or.inr rfl, Or.inr rfl, trivial⟩ (ihlp17_9 (x22) ((i8 + 1))  (by omega) (by omega) (by omega) (by omega)  (by omega))
                · intro h24
                  refine zw_7 zr_54_10 rfl ?_
                  refine zw_46r (s := 7) zr_54_11 rfl rfl rfl rfl ?_
                  refine zw_3 zr_54_14 rfl ?_
                  refine zw_48 (c := 7) (len := 60) zr_54_15 rfl rfl (by omega) (by omega) ?_
                  intro x25 ex25
                  have bx25 := ib_7 hI0 (k := (x17).toNat) (by omega)
                  rw [← ex25] at bx25
                  clear ex25
                  refine zw_42 zr_54_16 ?_
                  refine zw_R zr_54_25 (by decide) zm_54 (v := (0, x25)) rfl ?_
                  rw [← hQ1]
                  show zW E (d) 82 47 [(2, 55), (0, i1), (0, i7), (0, i8)] [(0, x25)] m0 Q
                  refine zw_9 (L' := [(2, 55), (0, i1), (0, x25), (0, i8)]) zr_82_47 (Nat.le_of_ble_eq_true rfl) rfl ?_
                  refine zw_15 (c := 1) (L' := [(2, 55), (0, i1), (0, x25), (0, (i8 + 1))]) zr_82_48 rfl (by decide) (by omega) rfl ?_
                  refine zw_42 zr_82_51 ?_
                  exact zw_less (L := [(2, 55), (0, i1), (0, x25), (0, (i8 + 1))]) ⟨Or.inr rfl, Or.inr rfl, Or.inr rfl, Or.inr rfl, trivial⟩ (ihlp17_9 (x25) ((i8 + 1))  (by omega) (by omega) (by omega) (by omega)  (by omega))
        exact lp17_9 _ (i1) (0)  (by omega) (by omega) (by omega) (by omega)  (Nat.lt_succ_self _)
  exact lp2_2 _ (0)  (by omega) (by omega)  (Nat.lt_succ_self _)

abbrev W_83 : List (Nat × Nat) := [(58, 1000), (59, 1000)]
set_option maxHeartbeats 8000000 in
theorem th_83 {E : zE} {d : Nat} {m0 : zM} {a0 : Int} (hd : 4 ≤ d) (hI0 : zInv m0) (ha0 : (-9223372036854775808) ≤ a0 ∧ a0 ≤ 9223372036854775807) : zC E d 83 [(2, 55), (1, a0)] m0 (fun v m' => ∃ r : Int, v = (1, r) ∧ (-9223372036854775808) ≤ r ∧ r ≤ 9223372036854775807 ∧ zInv m' ∧ zFr W_83 m0 m') := by
  have hF0 : zFr W_83 m0 m0 := zFr.rfl
  generalize hQ : (fun (v : zV) (m' : zM) => ∃ r : Int, v = (1, r) ∧ (-9223372036854775808) ≤ r ∧ r ≤ 9223372036854775807 ∧ zInv m' ∧ zFr W_83 m0 m') = Q
  show zW E d 83 0 [(2, 55), (1, a0), (9, 0), (9, 0), (9, 0), (9, 0)] [] m0 Q
  refine zw_7 zr_83_0 rfl ?_
  refine zw_46r (s := 58) zr_83_1 rfl rfl rfl rfl ?_
  refine zw_push zr_83_4 ?_
  refine zw_C zr_83_5 (Or.inr rfl) zm_4 rfl rfl ⟨Nat.le_of_ble_eq_true rfl, Nat.le_of_ble_eq_true rfl, Nat.le_of_ble_eq_true rfl, rfl, by decide⟩ (by omega) (th_4_58 (d := d - 1) (by omega) hI0 (a0 := 0)      (by omega) ) ?_
  rintro _ m1 ⟨rfl, hIm1, gm1⟩
  have hFm1 : zFr W_83 m0 m1 := hF0.trans gm1 rfl
  show zW E (d) 83 8 [(2, 55), (1, a0), (9, 0), (9, 0), (9, 0), (9, 0)] [] m1 Q
  refine zw_7 zr_83_8 rfl ?_
  refine zw_46r (s := 59) zr_83_9 rfl rfl rfl rfl ?_
  refine zw_push zr_83_12 ?_
  refine zw_C zr_83_13 (Or.inr rfl) zm_4 rfl rfl ⟨Nat.le_of_ble_eq_true rfl, Nat.le_of_ble_eq_true rfl, Nat.le_of_ble_eq_true rfl, rfl, by decide⟩ (by omega) (th_4_59 (d := d - 1) (by omega) hIm1 (a0 := (-1))      (by omega) ) ?_
  rintro _ m2 ⟨rfl, hIm2, gm2⟩
  have hFm2 : zFr W_83 m0 m2 := hFm1.trans gm2 rfl
  show zW E (d) 83 16 [(2, 55), (1, a0), (9, 0), (9, 0), (9, 0), (9, 0)] [] m2 Q
  refine zw_push zr_83_16 ?_
  refine zw_9 (L' := [(2, 55), (1, a0), (9, 0), (0, 0), (9, 0), (9, 0)]) zr_83_17 (Nat.le_of_ble_eq_true rfl) rfl ?_
  have lp18_5 : ∀ (nlp18_5 : Nat) (i3 : Int) (m4 : zM), zInv m4 → zFr W_83 m0 m4 → 0 ≤ i3 → i3 ≤ 10 → (10 - i3).toNat < nlp18_5 → zW E (d) 83 18 [(2, 55), (1, a0), (9, 0), (0, i3), (9, 0), (9, 0)] [] m4 Q := by
    intro nlp18_5
    induction nlp18_5 with
    | zero =>
      intros
      exact absurd (by assumption : _ < 0) (Nat.not_lt_zero _)
    | succ nlp18_5 ihlp18_5 =>
      intro i3 m4 hIm4 hFm4 li3 ui3 hmlp18_5
      refine zw_3 zr_83_18 rfl ?_
      refine zw_push zr_83_19 ?_
      refine zw_41_3 zr_83_21 ?_ ?_
      · intro h7
        refine zw_push zr_83_54 ?_
        refine zw_R zr_83_55 (by decide) zm_83 (v := (1, 0)) rfl ?_
        rw [← hQ]; exact ⟨_, rfl, by omega, by omega, hIm4, hFm4⟩
      · intro h8
        refine zw_7 zr_83_24 rfl ?_
        refine zw_5 zr_83_25 rfl ?_
        refine zw_C zr_83_26 (Or.inl rfl) zm_80 rfl rfl ⟨Nat.le_of_ble_eq_true rfl, Nat.le_of_ble_eq_true rfl, Nat.le_of_ble_eq_true rfl, rfl, by decide⟩ (by omega) (th_80 (d := d - 1) (by omega) hIm4 (a0 := a0)      (by omega) ) ?_
        rintro _ m9 ⟨r10, rfl, hr10a, hr10b, hIm9, gm9⟩
        have hFm9 : zFr W_83 m0 m9 := hFm4.trans gm9 rfl
        show zW E (d) 83 29 [(2, 55), (1, a0), (9, 0), (0, i3), (9, 0), (9, 0)] [(0, r10)] m9 Q
        refine zw_40_1 zr_83_29 ?_ ?_
        · intro h11
          refine zw_push zr_83_54 ?_
          refine zw_R zr_83_55 (by decide) zm_83 (v := (1, 0)) rfl ?_
          rw [← hQ]; exact ⟨_, rfl, by omega, by omega, hIm9, hFm9⟩
        · intro h12
          refine zw_7 zr_83_32 rfl ?_
          refine zw_C zr_83_33 (Or.inl rfl) zm_82 rfl rfl ⟨Nat.le_of_ble_eq_true rfl, Nat.le_of_ble_eq_true rfl, Nat.le_of_ble_eq_true rfl, rfl, by decide⟩ (by omega) (th_82 (d := d - 1) (by omega) hIm9        ) ?_
          rintro _ _ ⟨r13, rfl, hr13a, hr13b, rfl⟩
          show zW E (d) 83 36 [(2, 55), (1, a0), (9, 0), (0, i3), (9, 0), (9, 0)] [(1, r13)] m9 Q
          refine zw_14 (L' := [(2, 55), (1, a0), (9, 0), (0, i3), (1, r13), (9, 0)]) zr_83_36 (Nat.le_of_ble_eq_true rfl) rfl ?_
          refine zw_6 zr_83_38 rfl ?_
          refine zw_push zr_83_40 ?_
          refine zw_39_1 zr_83_41 zr_83_42 ?_ ?_
          · intro h14
            refine zw_15 (c := 1) (L' := [(2, 55), (1, a0), (9, 0), (0, (i3 + 1)), (1, r13), (9, 0)]) zr_83_48 rfl (by decide) (by omega) rfl ?_
            refine zw_42 zr_83_51 ?_
            exact zw_less (L := [(2, 55), (1, a0), (9, 0), (0, (i3 + 1)), (9, 0), (9, 0)]) ⟨Or.inr rfl, Or.inr rfl, Or.inl rfl, Or.inr rfl, Or.inl rfl, Or.inl rfl, trivial⟩ (ihlp18_5 ((i3 + 1)) m9 hIm9 hFm9   (by omega) (by omega)  (by omega))
          · intro h15
            refine zw_6 zr_83_45 rfl ?_
            refine zw_R zr_83_47 (by decide) zm_83 (v := (1, r13)) rfl ?_
            rw [← hQ]; exact ⟨_, rfl, by omega, by omega, hIm9, hFm9⟩
  exact lp18_5 _ (0) m2 hIm2 hFm2   (by omega) (by omega)  (Nat.lt_succ_self _)

abbrev W_84 : List (Nat × Nat) := [(56, 1000), (57, 1000), (58, 1000), (59, 1000)]
set_option maxHeartbeats 8000000 in
theorem th_84 {E : zE} {d : Nat} {m0 : zM} (hd : 5 ≤ d) (hI0 : zInv m0) : zC E d 84 [(2, 55)] m0 (fun v m' => ∃ r : Int, v = (0, r) ∧ 0 ≤ r ∧ r ≤ 1 ∧ zInv m' ∧ zFr W_84 m0 m') := by
  have hF0 : zFr W_84 m0 m0 := zFr.rfl
  generalize hQ : (fun (v : zV) (m' : zM) => ∃ r : Int, v = (0, r) ∧ 0 ≤ r ∧ r ≤ 1 ∧ zInv m' ∧ zFr W_84 m0 m') = Q
  show zW E d 84 0 [(2, 55)] [] m0 Q
  refine zw_7 zr_84_0 rfl ?_
  refine zw_C zr_84_1 (Or.inl rfl) zm_78 rfl rfl ⟨Nat.le_of_ble_eq_true rfl, Nat.le_of_ble_eq_true rfl, Nat.le_of_ble_eq_true rfl, rfl, by decide⟩ (by omega) (th_78 (d := d - 1) (by omega) hI0        ) ?_
  rintro _ m1 ⟨rfl, hIm1, gm1⟩
  have hFm1 : zFr W_84 m0 m1 := hF0.trans gm1 rfl
  show zW E (d) 84 4 [(2, 55)] [] m1 Q
  refine zw_7 zr_84_4 rfl ?_
  refine zw_7 zr_84_5 rfl ?_
  refine zw_46r (s := 1) zr_84_6 rfl rfl rfl rfl ?_
  refine zw_C zr_84_9 (Or.inl rfl) zm_53 rfl rfl ⟨Nat.le_of_ble_eq_true rfl, Nat.le_of_ble_eq_true rfl, Nat.le_of_ble_eq_true rfl, rfl, by decide⟩ (by omega) (th_53 (d := d - 1) (by omega) hIm1        ) ?_
  rintro _ _ ⟨r2, rfl, hr2a, hr2b, rfl⟩
  show zW E (d) 84 12 [(2, 55)] [(1, r2), (2, 55)] m1 Q
  refine zw_C zr_84_12 (Or.inl rfl) zm_83 rfl rfl ⟨Nat.le_of_ble_eq_true rfl, Nat.le_of_ble_eq_true rfl, Nat.le_of_ble_eq_true rfl, rfl, by decide⟩ (by omega) (th_83 (d := d - 1) (by omega) hIm1 (a0 := r2)      (by omega) ) ?_
  rintro _ m3 ⟨r4, rfl, hr4a, hr4b, hIm3, gm3⟩
  have hFm3 : zFr W_84 m0 m3 := hFm1.trans gm3 rfl
  show zW E (d) 84 15 [(2, 55)] [(1, r4)] m3 Q
  refine zw_push zr_84_15 ?_
  refine zw_39_4 zr_84_16 zr_84_17 ?_ ?_
  · intro h5
    refine zw_push zr_84_24 ?_
    refine zw_R zr_84_25 (by decide) zm_84 (v := (0, 0)) (zRetB (by omega)) ?_
    rw [← hQ]; exact ⟨_, rfl, by omega, by omega, hIm3, hFm3⟩
  · intro h6
    refine zw_push zr_84_20 ?_
    refine zw_42 zr_84_21 ?_
    refine zw_R zr_84_25 (by decide) zm_84 (v := (0, 1)) (zRetB (by omega)) ?_
    rw [← hQ]; exact ⟨_, rfl, by omega, by omega, hIm3, hFm3⟩

abbrev W_117 : List (Nat × Nat) := [(56, 1000), (57, 1000), (58, 1000), (59, 1000)]
set_option maxHeartbeats 8000000 in
theorem th_117 {E : zE} {d : Nat} {m0 : zM} (hd : 6 ≤ d) (hI0 : zInv m0) : zC E d 117 [(2, 0)] m0 (fun v m' => ∃ r : Int, v = (0, r) ∧ 0 ≤ r ∧ r ≤ 1 ∧ zInv m' ∧ zFr W_117 m0 m') := by
  have hF0 : zFr W_117 m0 m0 := zFr.rfl
  generalize hQ : (fun (v : zV) (m' : zM) => ∃ r : Int, v = (0, r) ∧ 0 ≤ r ∧ r ≤ 1 ∧ zInv m' ∧ zFr W_117 m0 m') = Q
  show zW E d 117 0 [(2, 0)] [] m0 Q
  refine zw_7 zr_117_0 rfl ?_
  refine zw_46r (s := 55) zr_117_1 rfl rfl rfl rfl ?_
  refine zw_C zr_117_4 (Or.inl rfl) zm_84 rfl rfl ⟨Nat.le_of_ble_eq_true rfl, Nat.le_of_ble_eq_true rfl, Nat.le_of_ble_eq_true rfl, rfl, by decide⟩ (by omega) (th_84 (d := d - 1) (by omega) hI0        ) ?_
  rintro _ m1 ⟨r2, rfl, hr2a, hr2b, hIm1, gm1⟩
  have hFm1 : zFr W_117 m0 m1 := hF0.trans gm1 rfl
  show zW E (d) 117 7 [(2, 0)] [(0, r2)] m1 Q
  refine zw_40_1 zr_117_7 ?_ ?_
  · intro h3
    refine zw_push zr_117_14 ?_
    refine zw_R zr_117_15 (by decide) zm_117 (v := (0, 1)) rfl ?_
    rw [← hQ]; exact ⟨_, rfl, by omega, by omega, hIm1, hFm1⟩
  · intro h4
    refine zw_push zr_117_10 ?_
    refine zw_42 zr_117_11 ?_
    refine zw_R zr_117_15 (by decide) zm_117 (v := (0, 0)) rfl ?_
    rw [← hQ]; exact ⟨_, rfl, by omega, by omega, hIm1, hFm1⟩

set_option maxHeartbeats 8000000 in
theorem th_182 {E : zE} {d : Nat} {m0 : zM} {a0 : Int} {a1 : Int} (hd : 1 ≤ d) (hI0 : zInv m0) (ha0 : 0 ≤ a0 ∧ a0 ≤ 9) (ha1 : 0 ≤ a1 ∧ a1 ≤ 99) : zC E d 182 [(2, 69), (0, a0), (0, a1)] m0 (fun v m' => ∃ r : Int, v = (0, r) ∧ (-2147483648) ≤ r ∧ r ≤ 2147483647 ∧ m0 = m') := by
  generalize hQ : (fun (v : zV) (m' : zM) => ∃ r : Int, v = (0, r) ∧ (-2147483648) ≤ r ∧ r ≤ 2147483647 ∧ m0 = m') = Q
  show zW E d 182 0 [(2, 69), (0, a0), (0, a1), (9, 0)] [] m0 Q
  refine zw_3 zr_182_0 rfl ?_
  refine zw_7 zr_182_1 rfl ?_
  refine zw_46r (s := 70) zr_182_2 rfl rfl rfl rfl ?_
  refine zw_push zr_182_5 ?_
  refine zw_3 zr_182_6 rfl ?_
  refine zw_16 zr_182_7 (by omega) ?_
  refine zw_48 (c := 70) (len := 826) zr_182_8 rfl rfl (by omega) (by omega) ?_
  intro x1 ex1
  have bx1 := ib_70_born hI0 (k := ((0 + a0)).toNat) (by omega)
  rw [← ex1] at bx1
  clear ex1
  refine zw_17 zr_182_9 (by omega) ?_
  refine zw_9 (L' := [(2, 69), (0, a0), (0, a1), (0, (a1 - x1))]) zr_182_10 (Nat.le_of_ble_eq_true rfl) rfl ?_
  refine zw_3 zr_182_11 rfl ?_
  refine zw_40_3 zr_182_12 ?_ ?_
  · intro h2
    refine zw_3 zr_182_19 rfl ?_
    refine zw_push zr_182_20 ?_
    refine zw_41_5 zr_182_23 ?_ ?_
    · intro h3
      refine zw_3 zr_182_32 rfl ?_
      refine zw_9 (L' := [(2, 69), (0, a0), (0, a1), (0, (a1 - x1))]) zr_182_33 (Nat.le_of_ble_eq_true rfl) rfl ?_
      refine zw_7 zr_182_34 rfl ?_
      refine zw_46r (s := 70) zr_182_35 rfl rfl rfl rfl ?_
      refine zw_push zr_182_38 ?_
      refine zw_3 zr_182_41 rfl ?_
      refine zw_16 zr_182_42 (by omega) ?_
      refine zw_48 (c := 70) (len := 826) zr_182_43 rfl rfl (by omega) (by omega) ?_
      intro x4 ex4
      have bx4 := hI0.ra (c := 70) (len := 826) (k := ((658 + (a1 - x1))).toNat) rfl (by omega)
      rw [← ex4] at bx4
      clear ex4
      refine zw_R zr_182_44 (by decide) zm_182 (v := (0, x4)) rfl ?_
      rw [← hQ]; exact ⟨_, rfl, by omega, by omega, rfl⟩
    · intro h5; omega
  · intro h6
    refine zw_push zr_182_15 ?_
    refine zw_42 zr_182_16 ?_
    refine zw_9 (L' := [(2, 69), (0, a0), (0, a1), (0, 0)]) zr_182_33 (Nat.le_of_ble_eq_true rfl) rfl ?_
    refine zw_7 zr_182_34 rfl ?_
    refine zw_46r (s := 70) zr_182_35 rfl rfl rfl rfl ?_
    refine zw_push zr_182_38 ?_
    refine zw_3 zr_182_41 rfl ?_
    refine zw_16 zr_182_42 (by omega) ?_
    obtain ⟨f7, ef7⟩ : ∃ v, m0 70 658 = v := ⟨_, rfl⟩
    have bf7 : (-500) ≤ m0 70 658 ∧ m0 70 658 ≤ 500 := ib_70_shape hI0 (by omega)
    rw [ef7] at bf7
    refine zw_48k (c := 70) (len := 826) zr_182_43 rfl rfl (by omega) (by omega) (show ((658 + 0) : Int).toNat = 658 by omega) ef7 ?_
    refine zw_R zr_182_44 (by decide) zm_182 (v := (0, f7)) rfl ?_
    rw [← hQ]; exact ⟨_, rfl, by omega, by omega, rfl⟩

abbrev W_183 : List (Nat × Nat) := [(80, 1000)]
set_option maxHeartbeats 8000000 in
theorem th_183 {E : zE} {d : Nat} {m0 : zM} {a0 : Int} {a1 : Int} {a2 : Int} (hd : 1 ≤ d) (hI0 : zInv m0) (ha0 : 0 ≤ a0 ∧ a0 ≤ 9) (ha1 : 0 ≤ a1 ∧ a1 ≤ 9) (ha2 : (-2147483648) ≤ a2 ∧ a2 ≤ 2147483647) : zC E d 183 [(2, 69), (0, a0), (0, a1), (0, a2)] m0 (fun v m' => v = (9, 0) ∧ zInv m' ∧ zFr W_183 m0 m') := by
  have hF0 : zFr W_183 m0 m0 := zFr.rfl
  generalize hQ : (fun (v : zV) (m' : zM) => v = (9, 0) ∧ zInv m' ∧ zFr W_183 m0 m') = Q
  show zW E d 183 0 [(2, 69), (0, a0), (0, a1), (0, a2), (9, 0)] [] m0 Q
  refine zw_push zr_183_0 ?_
  refine zw_3 zr_183_2 rfl ?_
  refine zw_18 zr_183_3 (by omega) ?_
  refine zw_3 zr_183_4 rfl ?_
  refine zw_16 zr_183_5 (by omega) ?_
  refine zw_10 (L' := [(2, 69), (0, a0), (0, a1), (0, a2), (0, ((10 * a1) + a0))]) zr_183_6 (Nat.le_of_ble_eq_true rfl) rfl ?_
  refine zw_7 zr_183_8 rfl ?_
  refine zw_46r (s := 80) zr_183_9 rfl rfl rfl rfl ?_
  refine zw_4 zr_183_12 rfl ?_
  refine zw_3 zr_183_14 rfl ?_
  refine zw_7 zr_183_15 rfl ?_
  refine zw_46r (s := 80) zr_183_16 rfl rfl rfl rfl ?_
  refine zw_4 zr_183_19 rfl ?_
  refine zw_48 (c := 80) (len := 100) zr_183_21 rfl rfl (by omega) (by omega) ?_
  intro x1 ex1
  have bx1 := hI0.ra (c := 80) (len := 100) (k := (((10 * a1) + a0)).toNat) rfl (by omega)
  rw [← ex1] at bx1
  refine zw_41_3 zr_183_22 ?_ ?_
  · intro h2
    refine zw_7 zr_183_29 rfl ?_
    refine zw_46r (s := 80) zr_183_30 rfl rfl rfl rfl ?_
    refine zw_4 zr_183_33 rfl ?_
    refine zw_48k (c := 80) (len := 100) zr_183_35 rfl rfl (by omega) (by omega) rfl ex1.symm ?_
    refine zw_49 (c := 80) (len := 100) zr_183_36 rfl rfl (by omega) (by omega) ?_
    intro m3 em3
    have hIm3 : zInv m3 := by rw [em3]; exact hI0.any (by omega) rfl (by decide) (by decide)
    have hFm3 : zFr W_183 m0 m3 := by rw [em3]; exact hF0.any rfl
    clear em3
    refine zw_R zr_183_37 (by decide) zm_183 (v := (9, 0)) rfl ?_
    rw [← hQ]; exact ⟨rfl, hIm3, hFm3⟩
  · intro h4
    refine zw_3 zr_183_25 rfl ?_
    refine zw_42 zr_183_26 ?_
    refine zw_49 (c := 80) (len := 100) zr_183_36 rfl rfl (by omega) (by omega) ?_
    intro m5 em5
    have hIm5 : zInv m5 := by rw [em5]; exact hI0.any (by omega) rfl (by decide) (by decide)
    have hFm5 : zFr W_183 m0 m5 := by rw [em5]; exact hF0.any rfl
    clear em5
    refine zw_R zr_183_37 (by decide) zm_183 (v := (9, 0)) rfl ?_
    rw [← hQ]; exact ⟨rfl, hIm5, hFm5⟩

abbrev W_184 : List (Nat × Nat) := [(80, 1000)]
set_option maxHeartbeats 8000000 in
theorem th_184 {E : zE} {d : Nat} {m0 : zM} {a0 : Int} {a1 : Int} {a2 : Int} (hd : 3 ≤ d) (hI0 : zInv m0) (ha0 : (-1) ≤ a0 ∧ a0 ≤ 59) (ha1 : (-1) ≤ a1 ∧ a1 ≤ 59) (ha2 : (-1) ≤ a2 ∧ a2 ≤ 59) : zC E d 184 [(2, 69), (0, a0), (0, a1), (0, a2)] m0 (fun v m' => ∃ r : Int, v = (0, r) ∧ 0 ≤ r ∧ r ≤ 1 ∧ zInv m' ∧ zFr W_184 m0 m') := by
  have hF0 : zFr W_184 m0 m0 := zFr.rfl
  generalize hQ : (fun (v : zV) (m' : zM) => ∃ r : Int, v = (0, r) ∧ 0 ≤ r ∧ r ≤ 1 ∧ zInv m' ∧ zFr W_184 m0 m') = Q
  show zW E d 184 0 [(2, 69), (0, a0), (0, a1), (0, a2), (9, 0), (9, 0), (9, 0), (9, 0), (9, 0), (9, 0), (9, 0)] [] m0 Q
  refine zw_push zr_184_0 ?_
  refine zw_10 (L' := [(2, 69), (0, a0), (0, a1), (0, a2), (0, 0), (9, 0), (9, 0), (9, 0), (9, 0), (9, 0), (9, 0)]) zr_184_1 (Nat.le_of_ble_eq_true rfl) rfl ?_
  have lp3_3 : ∀ (nlp3_3 : Nat) (i1 : Int) (m2 : zM), zInv m2 → zFr W_184 m0 m2 → 0 ≤ i1 → i1 ≤ 100 → (100 - i1).toNat < nlp3_3 → zW E (d) 184 3 [(2, 69), (0, a0), (0, a1), (0, a2), (0, i1), (9, 0), (9, 0), (9, 0), (9, 0), (9, 0), (9, 0)] [] m2 Q := by
    intro nlp3_3
    induction nlp3_3 with
    | zero =>
      intros
      exact absurd (by assumption : _ < 0) (Nat.not_lt_zero _)
    | succ nlp3_3 ihlp3_3 =>
      intro i1 m2 hIm2 hFm2 li1 ui1 hmlp3_3
      refine zw_4 zr_184_3 rfl ?_
      refine zw_push zr_184_5 ?_
      refine zw_41_3 zr_184_7 ?_ ?_
      · intro h5
        refine zw_push zr_184_42 ?_
        refine zw_10 (L' := [(2, 69), (0, a0), (0, a1), (0, a2), (0, 0), (9, 0), (9, 0), (9, 0), (9, 0), (9, 0), (9, 0)]) zr_184_43 (Nat.le_of_ble_eq_true rfl) rfl ?_
        have lp45_8 : ∀ (nlp45_8 : Nat) (i6 : Int) (m7 : zM), zInv m7 → zFr W_184 m0 m7 → 0 ≤ i6 → i6 ≤ 60 → (60 - i6).toNat < nlp45_8 → zW E (d) 184 45 [(2, 69), (0, a0), (0, a1), (0, a2), (0, i6), (9, 0), (9, 0), (9, 0), (9, 0), (9, 0), (9, 0)] [] m7 Q := by
          intro nlp45_8
          induction nlp45_8 with
          | zero =>
            intros
            exact absurd (by assumption : _ < 0) (Nat.not_lt_zero _)
          | succ nlp45_8 ihlp45_8 =>
            intro i6 m7 hIm7 hFm7 li6 ui6 hmlp45_8
            refine zw_4 zr_184_45 rfl ?_
            refine zw_7 zr_184_47 rfl ?_
            refine zw_C zr_184_48 (Or.inl rfl) zm_142 rfl rfl ⟨Nat.le_of_ble_eq_true rfl, Nat.le_of_ble_eq_true rfl, Nat.le_of_ble_eq_true rfl, rfl, by decide⟩ (by omega) (P := (fun v m' => zW E (d) 184 51 [(2, 69), (0, a0), (0, a1), (0, a2), (0, i6), (9, 0), (9, 0), (9, 0), (9, 0), (9, 0), (9, 0)] (if v.1 = 9 then [(0, i6)] else v :: [(0, i6)]) m' Q)) ?_ (fun _ _ h => h)
            generalize hQ1 : (fun v m' => zW E (d) 184 51 [(2, 69), (0, a0), (0, a1), (0, a2), (0, i6), (9, 0), (9, 0), (9, 0), (9, 0), (9, 0), (9, 0)] (if v.1 = 9 then [(0, i6)] else v :: [(0, i6)]) m' Q) = Q1
            show zW E (d - 1) 142 0 [(2, 69)] [] m7 Q1
            refine zw_7 zr_142_0 rfl ?_
            refine zw_46r (s := 70) zr_142_1 rfl rfl rfl rfl ?_
            refine zw_push zr_142_4 ?_
            obtain ⟨f10, ef10⟩ : ∃ v, m7 70 823 = v := ⟨_, rfl⟩
            have bf10 : 0 ≤ m7 70 823 ∧ m7 70 823 ≤ 60 := ib_70_meetings hIm7 (by omega)
            rw [ef10] at bf10
            refine zw_48k (c := 70) (len := 826) zr_142_7 rfl rfl (by omega) (by omega) (show (823 : Int).toNat = 823 by omega) ef10 ?_
            refine zw_R zr_142_8 (by decide) zm_142 (v := (0, f10)) rfl ?_
            rw [← hQ1]
            show zW E (d) 184 51 [(2, 69), (0, a0), (0, a1), (0, a2), (0, i6), (9, 0), (9, 0), (9, 0), (9, 0), (9, 0), (9, 0)] [(0, f10), (0, i6)] m7 Q
            refine zw_41_3 zr_184_51 ?_ ?_
            · intro h11
              refine zw_push zr_184_245 ?_
              refine zw_10 (L' := [(2, 69), (0, a0), (0, a1), (0, a2), (0, 0), (9, 0), (9, 0), (9, 0), (9, 0), (9, 0), (9, 0)]) zr_184_246 (Nat.le_of_ble_eq_true rfl) rfl ?_
              have lp248_14 : ∀ (nlp248_14 : Nat) (i12 : Int) (m13 : zM), zInv m13 → zFr W_184 m0 m13 → m13 70 823 = f10 → 0 ≤ i12 → i12 ≤ 10 → (10 - i12).toNat < nlp248_14 → zW E (d) 184 248 [(2, 69), (0, a0), (0, a1), (0, a2), (0, i12), (9, 0), (9, 0), (9, 0), (9, 0), (9, 0), (9, 0)] [] m13 Q := by
                intro nlp248_14
                induction nlp248_14 with
                | zero =>
                  intros
                  exact absurd (by assumption : _ < 0) (Nat.not_lt_zero _)
                | succ nlp248_14 ihlp248_14 =>
                  intro i12 m13 hIm13 hFm13 km13_70_823 li12 ui12 hmlp248_14
                  refine zw_4 zr_184_248 rfl ?_
                  refine zw_push zr_184_250 ?_
                  refine zw_41_3 zr_184_252 ?_ ?_
                  · intro h16
                    refine zw_push zr_184_450 ?_
                    refine zw_R zr_184_451 (by decide) zm_184 (v := (0, 1)) (zRetB (by omega)) ?_
                    rw [← hQ]; exact ⟨_, rfl, by omega, by omega, hIm13, hFm13⟩
                  · intro h17
                    refine zw_push zr_184_255 ?_
                    refine zw_10 (L' := [(2, 69), (0, a0), (0, a1), (0, a2), (0, i12), (0, 0), (9, 0), (9, 0), (9, 0), (9, 0), (9, 0)]) zr_184_256 (Nat.le_of_ble_eq_true rfl) rfl ?_
                    have lp258_20 : ∀ (nlp258_20 : Nat) (i18 : Int) (m19 : zM), zInv m19 → zFr W_184 m0 m19 → m19 70 823 = f10 → 0 ≤ i18 → i18 ≤ 10 → (10 - i18).toNat < nlp258_20 → zW E (d) 184 258 [(2, 69), (0, a0), (0, a1), (0, a2), (0, i12), (0, i18), (9, 0), (9, 0), (9, 0), (9, 0), (9, 0)] [] m19 Q := by
                      intro nlp258_20
                      induction nlp258_20 with
                      | zero =>
                        intros
                        exact absurd (by assumption : _ < 0) (Nat.not_lt_zero _)
                      | succ nlp258_20 ihlp258_20 =>
                        intro i18 m19 hIm19 hFm19 km19_70_823 li18 ui18 hmlp258_20
                        refine zw_4 zr_184_258 rfl ?_
                        refine zw_push zr_184_260 ?_
                        refine zw_41_3 zr_184_262 ?_ ?_
                        · intro h22
                          refine zw_push zr_184_413 ?_
                          refine zw_10 (L' := [(2, 69), (0, a0), (0, a1), (0, a2), (0, i12), (0, 0), (9, 0), (9, 0), (9, 0), (9, 0), (9, 0)]) zr_184_414 (Nat.le_of_ble_eq_true rfl) rfl ?_
                          have lp416_24 : ∀ (nlp416_24 : Nat) (i23 : Int), 0 ≤ i23 → i23 ≤ 10 → (10 - i23).toNat < nlp416_24 → zW E (d) 184 416 [(2, 69), (0, a0), (0, a1), (0, a2), (0, i12), (0, i23), (9, 0), (9, 0), (9, 0), (9, 0), (9, 0)] [] m19 Q := by
                            intro nlp416_24
                            induction nlp416_24 with
                            | zero =>
                              intros
                              exact absurd (by assumption : _ < 0) (Nat.not_lt_zero _)
                            | succ nlp416_24 ihlp416_24 =>
                              intro i23 li23 ui23 hmlp416_24
                              refine zw_4 zr_184_416 rfl ?_
                              refine zw_push zr_184_418 ?_
                              refine zw_41_3 zr_184_420 ?_ ?_
                              · intro h26
                                refine zw_15 (c := 1) (L' := [(2, 69), (0, a0), (0, a1), (0, a2), (0, (i12 + 1)), (0, i23), (9, 0), (9, 0), (9, 0), (9, 0), (9, 0)]) zr_184_444 rfl (by decide) (by omega) rfl ?_
                                refine zw_42 zr_184_447 ?_
                                exact zw_less (L := [(2, 69), (0, a0), (0, a1), (0, a2), (0, (i12 + 1)), (9, 0), (9, 0), (9, 0), (9, 0), (9, 0), (9, 0)]) ⟨Or.inr rfl, Or.inr rfl, Or.inr rfl, Or.inr rfl, Or.inr rfl, Or.inl rfl, Or.inl rfl, Or.inl rfl, Or.inl rfl, Or.inl rfl, Or.inl rfl, trivial⟩ (ihlp248_14 ((i12 + 1)) m19 hIm19 hFm19  km19_70_823 (by omega) (by omega)  (by omega))
                              · intro h27
                                refine zw_7 zr_184_423 rfl ?_
                                refine zw_46r (s := 80) zr_184_424 rfl rfl rfl rfl ?_
                                refine zw_push zr_184_427 ?_
                                refine zw_4 zr_184_429 rfl ?_
                                refine zw_18 zr_184_431 (by omega) ?_
                                refine zw_48 (c := 80) (len := 100) zr_184_432 rfl rfl (by omega) (by omega) ?_
                                intro x28 ex28
                                have bx28 := hIm19.ra (c := 80) (len := 100) (k := ((11 * i23)).toNat) rfl (by omega)
                                rw [← ex28] at bx28
                                clear ex28
                                refine zw_40_3 zr_184_433 ?_ ?_
                                · intro h29
                                  refine zw_15 (c := 1) (L' := [(2, 69), (0, a0), (0, a1), (0, a2), (0, i12), (0, (i23 + 1)), (9, 0), (9, 0), (9, 0), (9, 0), (9, 0)]) zr_184_438 rfl (by decide) (by omega) rfl ?_
                                  refine zw_42 zr_184_441 ?_
                                  exact zw_less (L := [(2, 69), (0, a0), (0, a1), (0, a2), (0, i12), (0, (i23 + 1)), (9, 0), (9, 0), (9, 0), (9, 0), (9, 0)]) ⟨Or.inr rfl, Or.inr rfl, Or.inr rfl, Or.inr rfl, Or.inr rfl, Or.inr rfl, Or.inl rfl, Or.inl rfl, Or.inl rfl, Or.inl rfl, Or.inl rfl, trivial⟩ (ihlp416_24 ((i23 + 1))  (by omega) (by omega)  (by omega))
                                · intro h30
                                  refine zw_push zr_184_436 ?_
                                  refine zw_R zr_184_437 (by decide) zm_184 (v := (0, 0)) (zRetB (by omega)) ?_
                                  rw [← hQ]; exact ⟨_, rfl, by omega, by omega, hIm19, hFm19⟩
                          exact lp416_24 _ (0)  (by omega) (by omega)  (Nat.lt_succ_self _)
                        · intro h31
                          refine zw_push zr_184_265 ?_
                          refine zw_10 (L' := [(2, 69), (0, a0), (0, a1), (0, a2), (0, i12), (0, i18), (0, 0), (9, 0), (9, 0), (9, 0), (9, 0)]) zr_184_266 (Nat.le_of_ble_eq_true rfl) rfl ?_
                          have lp268_34 : ∀ (nlp268_34 : Nat) (i32 : Int) (m33 : zM), zInv m33 → zFr W_184 m0 m33 → m33 70 823 = f10 → 0 ≤ i32 → i32 ≤ 10 → (10 - i32).toNat < nlp268_34 → zW E (d) 184 268 [(2, 69), (0, a0), (0, a1), (0, a2), (0, i12), (0, i18), (0, i32), (9, 0), (9, 0), (9, 0), (9, 0)] [] m33 Q := by
                            intro nlp268_34
                            induction nlp268_34 with
                            | zero =>
                              intros
                              exact absurd (by assumption : _ < 0) (Nat.not_lt_zero _)
                            | succ nlp268_34 ihlp268_34 =>
                              intro i32 m33 hIm33 hFm33 km33_70_823 li32 ui32 hmlp268_34
                              refine zw_4 zr_184_268 rfl ?_
                              refine zw_push zr_184_270 ?_
                              refine zw_41_3 zr_184_272 ?_ ?_
                              · intro h36
                                refine zw_15 (c := 1) (L' := [(2, 69), (0, a0), (0, a1), (0, a2), (0, i12), (0, (i18 + 1)), (0, i32), (9, 0), (9, 0), (9, 0), (9, 0)]) zr_184_407 rfl (by decide) (by omega) rfl ?_
                                refine zw_42 zr_184_410 ?_
                                exact zw_less (L := [(2, 69), (0, a0), (0, a1), (0, a2), (0, i12), (0, (i18 + 1)), (9, 0), (9, 0), (9, 0), (9, 0), (9, 0)]) ⟨Or.inr rfl, Or.inr rfl, Or.inr rfl, Or.inr rfl, Or.inr rfl, Or.inr rfl, Or.inl rfl, Or.inl rfl, Or.inl rfl, Or.inl rfl, Or.inl rfl, trivial⟩ (ihlp258_20 ((i18 + 1)) m33 hIm33 hFm33  km33_70_823 (by omega) (by omega)  (by omega))
                              · intro h37
                                refine zw_7 zr_184_275 rfl ?_
                                refine zw_46r (s := 80) zr_184_276 rfl rfl rfl rfl ?_
                                refine zw_push zr_184_279 ?_
                                refine zw_4 zr_184_281 rfl ?_
                                refine zw_18 zr_184_283 (by omega) ?_
                                refine zw_4 zr_184_284 rfl ?_
                                refine zw_16 zr_184_286 (by omega) ?_
                                refine zw_48 (c := 80) (len := 100) zr_184_287 rfl rfl (by omega) (by omega) ?_
                                intro x38 ex38
                                have bx38 := hIm33.ra (c := 80) (len := 100) (k := (((10 * i18) + i12)).toNat) rfl (by omega)
                                rw [← ex38] at bx38
                                refine zw_7 zr_184_288 rfl ?_
                                refine zw_46r (s := 80) zr_184_289 rfl rfl rfl rfl ?_
                                refine zw_push zr_184_292 ?_
                                refine zw_4 zr_184_294 rfl ?_
                                refine zw_18 zr_184_296 (by omega) ?_
                                refine zw_4 zr_184_297 rfl ?_
                                refine zw_16 zr_184_299 (by omega) ?_
                                refine zw_48 (c := 80) (len := 100) zr_184_300 rfl rfl (by omega) (by omega) ?_
                                intro x39 ex39
                                have bx39 := hIm33.ra (c := 80) (len := 100) (k := (((10 * i12) + i32)).toNat) rfl (by omega)
                                rw [← ex39] at bx39
                                refine zw_16h zr_184_301 ?_
                                intro x40 hx40a hx40b
                                refine zw_10 (L' := [(2, 69), (0, a0), (0, a1), (0, a2), (0, i12), (0, i18), (0, i32), (0, x40), (9, 0), (9, 0), (9, 0)]) zr_184_302 (Nat.le_of_ble_eq_true rfl) rfl ?_
                                refine zw_7 zr_184_304 rfl ?_
                                refine zw_46r (s := 80) zr_184_305 rfl rfl rfl rfl ?_
                                refine zw_push zr_184_308 ?_
                                refine zw_4 zr_184_310 rfl ?_
                                refine zw_18 zr_184_312 (by omega) ?_
                                refine zw_4 zr_184_313 rfl ?_
                                refine zw_16 zr_184_315 (by omega) ?_
                                refine zw_48k (c := 80) (len := 100) zr_184_316 rfl rfl (by omega) (by omega) rfl ex38.symm ?_
                                refine zw_push zr_184_317 ?_
                                refine zw_41_3 zr_184_319 ?_ ?_
                                · intro h41
                                  refine zw_push zr_184_344 ?_
                                  refine zw_10 (L' := [(2, 69), (0, a0), (0, a1), (0, a2), (0, i12), (0, i18), (0, i32), (0, x40), (0, 0), (9, 0), (9, 0)]) zr_184_345 (Nat.le_of_ble_eq_true rfl) rfl ?_
                                  refine zw_7 zr_184_347 rfl ?_
                                  refine zw_46r (s := 80) zr_184_348 rfl rfl rfl rfl ?_
                                  refine zw_push zr_184_351 ?_
                                  refine zw_4 zr_184_353 rfl ?_
                                  refine zw_18 zr_184_355 (by omega) ?_
                                  refine zw_4 zr_184_356 rfl ?_
                                  refine zw_16 zr_184_358 (by omega) ?_
                                  refine zw_4 zr_184_359 rfl ?_
                                  refine zw_40_1 zr_184_361 ?_ ?_
                                  · intro h42
                                    refine zw_7 zr_184_387 rfl ?_
                                    refine zw_46r (s := 80) zr_184_388 rfl rfl rfl rfl ?_
                                    refine zw_push zr_184_391 ?_
                                    refine zw_4 zr_184_393 rfl ?_
                                    refine zw_18 zr_184_395 (by omega) ?_
                                    refine zw_4 zr_184_396 rfl ?_
                                    refine zw_16 zr_184_398 (by omega) ?_
                                    refine zw_48 (c := 80) (len := 100) zr_184_399 rfl rfl (by omega) (by omega) ?_
                                    intro x43 ex43
                                    have bx43 := hIm33.ra (c := 80) (len := 100) (k := (((10 * i18) + i32)).toNat) rfl (by omega)
                                    rw [← ex43] at bx43
                                    clear ex43
                                    refine zw_49 (c := 80) (len := 100) zr_184_400 rfl rfl (by omega) (by omega) ?_
                                    intro m44 em44
                                    have hIm44 : zInv m44 := by rw [em44]; exact hIm33.any (by omega) rfl (by decide) (by decide)
                                    have hFm44 : zFr W_184 m0 m44 := by rw [em44]; exact hFm33.any rfl
                                    have km44_70_823 : m44 70 823 = f10 := by rw [em44, zUp_ne (by omega)]; exact km33_70_823
                                    clear em44
                                    refine zw_15 (c := 1) (L' := [(2, 69), (0, a0), (0, a1), (0, a2), (0, i12), (0, i18), (0, (i32 + 1)), (0, x40), (0, 0), (9, 0), (9, 0)]) zr_184_401 rfl (by decide) (by omega) rfl ?_
                                    refine zw_42 zr_184_404 ?_
                                    exact zw_less (L := [(2, 69), (0, a0), (0, a1), (0, a2), (0, i12), (0, i18), (0, (i32 + 1)), (9, 0), (9, 0), (9, 0), (9, 0)]) ⟨Or.inr rfl, Or.inr rfl, Or.inr rfl, Or.inr rfl, Or.inr rfl, Or.inr rfl, Or.inr rfl, Or.inl rfl, Or.inl rfl, Or.inl rfl, Or.inl rfl, trivial⟩ (ihlp268_34 ((i32 + 1)) m44 hIm44 hFm44  km44_70_823 (by omega) (by omega)  (by omega))
                                  · intro h45; omega
                                · intro h46
                                  refine zw_7 zr_184_322 rfl ?_
                                  refine zw_46r (s := 80) zr_184_323 rfl rfl rfl rfl ?_
                                  refine zw_push zr_184_326 ?_
                                  refine zw_4 zr_184_328 rfl ?_
                                  refine zw_18 zr_184_330 (by omega) ?_
                                  refine zw_4 zr_184_331 rfl ?_
                                  refine zw_16 zr_184_333 (by omega) ?_
                                  refine zw_48k (c := 80) (len := 100) zr_184_334 rfl rfl (by omega) (by omega) rfl ex39.symm ?_
                                  refine zw_push zr_184_335 ?_
                                  refine zw_41_3 zr_184_337 ?_ ?_
                                  · intro h47
                                    refine zw_push zr_184_344 ?_
                                    refine zw_10 (L' := [(2, 69), (0, a0), (0, a1), (0, a2), (0, i12), (0, i18), (0, i32), (0, x40), (0, 0), (9, 0), (9, 0)]) zr_184_345 (Nat.le_of_ble_eq_true rfl) rfl ?_
                                    refine zw_7 zr_184_347 rfl ?_
                                    refine zw_46r (s := 80) zr_184_348 rfl rfl rfl rfl ?_
                                    refine zw_push zr_184_351 ?_
                                    refine zw_4 zr_184_353 rfl ?_
                                    refine zw_18 zr_184_355 (by omega) ?_
                                    refine zw_4 zr_184_356 rfl ?_
                                    refine zw_16 zr_184_358 (by omega) ?_
                                    refine zw_4 zr_184_359 rfl ?_
                                    refine zw_40_1 zr_184_361 ?_ ?_
                                    · intro h48
                                      refine zw_7 zr_184_387 rfl ?_
                                      refine zw_46r (s := 80) zr_184_388 rfl rfl rfl rfl ?_
                                      refine zw_push zr_184_391 ?_
                                      refine zw_4 zr_184_393 rfl ?_
                                      refine zw_18 zr_184_395 (by omega) ?_
                                      refine zw_4 zr_184_396 rfl ?_
                                      refine zw_16 zr_184_398 (by omega) ?_
                                      refine zw_48 (c := 80) (len := 100) zr_184_399 rfl rfl (by omega) (by omega) ?_
                                      intro x49 ex49
                                      have bx49 := hIm33.ra (c := 80) (len := 100) (k := (((10 * i18) + i32)).toNat) rfl (by omega)
                                      rw [← ex49] at bx49
                                      clear ex49
                                      refine zw_49 (c := 80) (len := 100) zr_184_400 rfl rfl (by omega) (by omega) ?_
                                      intro m50 em50
                                      have hIm50 : zInv m50 := by rw [em50]; exact hIm33.any (by omega) rfl (by decide) (by decide)
                                      have hFm50 : zFr W_184 m0 m50 := by rw [em50]; exact hFm33.any rfl
                                      have km50_70_823 : m50 70 823 = f10 := by rw [em50, zUp_ne (by omega)]; exact km33_70_823
                                      clear em50
                                      refine zw_15 (c := 1) (L' := [(2, 69), (0, a0), (0, a1), (0, a2), (0, i12), (0, i18), (0, (i32 + 1)), (0, x40), (0, 0), (9, 0), (9, 0)]) zr_184_401 rfl (by decide) (by omega) rfl ?_
                                      refine zw_42 zr_184_404 ?_
                                      exact zw_less (L := [(2, 69), (0, a0), (0, a1), (0, a2), (0, i12), (0, i18), (0, (i32 + 1)), (9, 0), (9, 0), (9, 0), (9, 0)]) ⟨Or.inr rfl, Or.inr rfl, Or.inr rfl, Or.inr rfl, Or.inr rfl, Or.inr rfl, Or.inr rfl, Or.inl rfl, Or.inl rfl, Or.inl rfl, Or.inl rfl, trivial⟩ (ihlp268_34 ((i32 + 1)) m50 hIm50 hFm50  km50_70_823 (by omega) (by omega)  (by omega))
                                    · intro h51; omega
                                  · intro h52
                                    refine zw_push zr_184_340 ?_
                                    refine zw_42 zr_184_341 ?_
                                    refine zw_10 (L' := [(2, 69), (0, a0), (0, a1), (0, a2), (0, i12), (0, i18), (0, i32), (0, x40), (0, 1), (9, 0), (9, 0)]) zr_184_345 (Nat.le_of_ble_eq_true rfl) rfl ?_
                                    refine zw_7 zr_184_347 rfl ?_
                                    refine zw_46r (s := 80) zr_184_348 rfl rfl rfl rfl ?_
                                    refine zw_push zr_184_351 ?_
                                    refine zw_4 zr_184_353 rfl ?_
                                    refine zw_18 zr_184_355 (by omega) ?_
                                    refine zw_4 zr_184_356 rfl ?_
                                    refine zw_16 zr_184_358 (by omega) ?_
                                    refine zw_4 zr_184_359 rfl ?_
                                    refine zw_40_1 zr_184_361 ?_ ?_
                                    · intro h53; omega
                                    · intro h54
                                      refine zw_4 zr_184_364 rfl ?_
                                      refine zw_7 zr_184_366 rfl ?_
                                      refine zw_46r (s := 80) zr_184_367 rfl rfl rfl rfl ?_
                                      refine zw_push zr_184_370 ?_
                                      refine zw_4 zr_184_372 rfl ?_
                                      refine zw_18 zr_184_374 (by omega) ?_
                                      refine zw_4 zr_184_375 rfl ?_
                                      refine zw_16 zr_184_377 (by omega) ?_
                                      refine zw_48 (c := 80) (len := 100) zr_184_378 rfl rfl (by omega) (by omega) ?_
                                      intro x55 ex55
                                      have bx55 := hIm33.ra (c := 80) (len := 100) (k := (((10 * i18) + i32)).toNat) rfl (by omega)
                                      rw [← ex55] at bx55
                                      refine zw_41_3 zr_184_379 ?_ ?_
                                      · intro h56
                                        refine zw_7 zr_184_387 rfl ?_
                                        refine zw_46r (s := 80) zr_184_388 rfl rfl rfl rfl ?_
                                        refine zw_push zr_184_391 ?_
                                        refine zw_4 zr_184_393 rfl ?_
                                        refine zw_18 zr_184_395 (by omega) ?_
                                        refine zw_4 zr_184_396 rfl ?_
                                        refine zw_16 zr_184_398 (by omega) ?_
                                        refine zw_48k (c := 80) (len := 100) zr_184_399 rfl rfl (by omega) (by omega) rfl ex55.symm ?_
                                        refine zw_49 (c := 80) (len := 100) zr_184_400 rfl rfl (by omega) (by omega) ?_
                                        intro m57 em57
                                        have hIm57 : zInv m57 := by rw [em57]; exact hIm33.any (by omega) rfl (by decide) (by decide)
                                        have hFm57 : zFr W_184 m0 m57 := by rw [em57]; exact hFm33.any rfl
                                        have km57_70_823 : m57 70 823 = f10 := by rw [em57, zUp_ne (by omega)]; exact km33_70_823
                                        clear em57
                                        refine zw_15 (c := 1) (L' := [(2, 69), (0, a0), (0, a1), (0, a2), (0, i12), (0, i18), (0, (i32 + 1)), (0, x40), (0, 1), (9, 0), (9, 0)]) zr_184_401 rfl (by decide) (by omega) rfl ?_
                                        refine zw_42 zr_184_404 ?_
                                        exact zw_less (L := [(2, 69), (0, a0), (0, a1), (0, a2), (0, i12), (0, i18), (0, (i32 + 1)), (9, 0), (9, 0), (9, 0), (9, 0)]) ⟨Or.inr rfl, Or.inr rfl, Or.inr rfl, Or.inr rfl, Or.inr rfl, Or.inr rfl, Or.inr rfl, Or.inl rfl, Or.inl rfl, Or.inl rfl, Or.inl rfl, trivial⟩ (ihlp268_34 ((i32 + 1)) m57 hIm57 hFm57  km57_70_823 (by omega) (by omega)  (by omega))
                                      · intro h58
                                        refine zw_4 zr_184_382 rfl ?_
                                        refine zw_42 zr_184_384 ?_
                                        refine zw_49 (c := 80) (len := 100) zr_184_400 rfl rfl (by omega) (by omega) ?_
                                        intro m59 em59
                                        have hIm59 : zInv m59 := by rw [em59]; exact hIm33.any (by omega) rfl (by decide) (by decide)
                                        have hFm59 : zFr W_184 m0 m59 := by rw [em59]; exact hFm33.any rfl
                                        have km59_70_823 : m59 70 823 = f10 := by rw [em59, zUp_ne (by omega)]; exact km33_70_823
                                        clear em59
                                        refine zw_15 (c := 1) (L' := [(2, 69), (0, a0), (0, a1), (0, a2), (0, i12), (0, i18), (0, (i32 + 1)), (0, x40), (0, 1), (9, 0), (9, 0)]) zr_184_401 rfl (by decide) (by omega) rfl ?_
                                        refine zw_42 zr_184_404 ?_
                                        exact zw_less (L := [(2, 69), (0, a0), (0, a1), (0, a2), (0, i12), (0, i18), (0, (i32 + 1)), (9, 0), (9, 0), (9, 0), (9, 0)]) ⟨Or.inr rfl, Or.inr rfl, Or.inr rfl, Or.inr rfl, Or.inr rfl, Or.inr rfl, Or.inr rfl, Or.inl rfl, Or.inl rfl, Or.inl rfl, Or.inl rfl, trivial⟩ (ihlp268_34 ((i32 + 1)) m59 hIm59 hFm59  km59_70_823 (by omega) (by omega)  (by omega))
                          exact lp268_34 _ (0) m19 hIm19 hFm19  km19_70_823 (by omega) (by omega)  (Nat.lt_succ_self _)
                    exact lp258_20 _ (0) m13 hIm13 hFm13  km13_70_823 (by omega) (by omega)  (Nat.lt_succ_self _)
              exact lp248_14 _ (0) m7 hIm7 hFm7  ef10 (by omega) (by omega)  (Nat.lt_succ_self _)
            · intro h60
              refine zw_7 zr_184_54 rfl ?_
              refine zw_4 zr_184_55 rfl ?_
              refine zw_C zr_184_57 (Or.inl rfl) zm_181 rfl rfl ⟨Nat.le_of_ble_eq_true rfl, Nat.le_of_ble_eq_true rfl, Nat.le_of_ble_eq_true rfl, rfl, by decide⟩ (by omega) (P := (fun v m' => zW E (d) 184 60 [(2, 69), (0, a0), (0, a1), (0, a2), (0, i6), (9, 0), (9, 0), (9, 0), (9, 0), (9, 0), (9, 0)] (if v.1 = 9 then [] else v :: []) m' Q)) ?_ (fun _ _ h => h)
              generalize hQ1 : (fun v m' => zW E (d) 184 60 [(2, 69), (0, a0), (0, a1), (0, a2), (0, i6), (9, 0), (9, 0), (9, 0), (9, 0), (9, 0), (9, 0)] (if v.1 = 9 then [] else v :: []) m' Q) = Q1
              show zW E (d - 1) 181 0 [(2, 69), (0, i6)] [] m7 Q1
              refine zw_7 zr_181_0 rfl ?_
              refine zw_3 zr_181_1 rfl ?_
              refine zw_push zr_181_2 ?_
              refine zw_C zr_181_3 (Or.inl rfl) zm_144 rfl rfl ⟨Nat.le_of_ble_eq_true rfl, Nat.le_of_ble_eq_true rfl, Nat.le_of_ble_eq_true rfl, rfl, by decide⟩ (by omega) (P := (fun v m' => zW E (d - 1) 181 6 [(2, 69), (0, i6)] (if v.1 = 9 then [] else v :: []) m' Q1)) ?_ (fun _ _ h => h)
              generalize hQ2 : (fun v m' => zW E (d - 1) 181 6 [(2, 69), (0, i6)] (if v.1 = 9 then [] else v :: []) m' Q1) = Q2
              show zW E (d - 1 - 1) 144 0 [(2, 69), (0, i6), (0, 4)] [] m7 Q2
              refine zw_7 zr_144_0 rfl ?_
              refine zw_46r (s := 70) zr_144_1 rfl rfl rfl rfl ?_
              refine zw_push zr_144_4 ?_
              refine zw_push zr_144_6 ?_
              refine zw_3 zr_144_8 rfl ?_
              refine zw_18 zr_144_9 (by omega) ?_
              refine zw_16 zr_144_10 (by omega) ?_
              refine zw_3 zr_144_11 rfl ?_
              refine zw_16 zr_144_12 (by omega) ?_
              refine zw_48 (c := 70) (len := 826) zr_144_13 rfl rfl (by omega) (by omega) ?_
              intro x61 ex61
              have bx61 := ib_70_m4 hIm7 (k := (((90 + (6 * i6)) + 4)).toNat) (by omega)
              rw [← ex61] at bx61
              clear ex61
              refine zw_R zr_144_14 (by decide) zm_144 (v := (0, x61)) rfl ?_
              rw [← hQ2]
              show zW E (d - 1) 181 6 [(2, 69), (0, i6)] [(0, x61)] m7 Q1
              refine zw_40_4 zr_181_6 ?_ ?_
              · intro h62
                refine zw_push zr_181_22 ?_
                refine zw_R zr_181_23 (by decide) zm_181 (v := (0, 0)) (zRetB (by omega)) ?_
                rw [← hQ1]
                show zW E (d) 184 60 [(2, 69), (0, a0), (0, a1), (0, a2), (0, i6), (9, 0), (9, 0), (9, 0), (9, 0), (9, 0), (9, 0)] [(0, 0)] m7 Q
                refine zw_40_1 zr_184_60 ?_ ?_
                · intro h63
                  refine zw_15 (c := 1) (L' := [(2, 69), (0, a0), (0, a1), (0, a2), (0, (i6 + 1)), (9, 0), (9, 0), (9, 0), (9, 0), (9, 0), (9, 0)]) zr_184_239 rfl (by decide) (by omega) rfl ?_
                  refine zw_42 zr_184_242 ?_
                  exact zw_less (L := [(2, 69), (0, a0), (0, a1), (0, a2), (0, (i6 + 1)), (9, 0), (9, 0), (9, 0), (9, 0), (9, 0), (9, 0)]) ⟨Or.inr rfl, Or.inr rfl, Or.inr rfl, Or.inr rfl, Or.inr rfl, Or.inl rfl, Or.inl rfl, Or.inl rfl, Or.inl rfl, Or.inl rfl, Or.inl rfl, trivial⟩ (ihlp45_8 ((i6 + 1)) m7 hIm7 hFm7   (by omega) (by omega)  (by omega))
                · intro h64; omega
              · intro h65
                refine zw_7 zr_181_9 rfl ?_
                refine zw_3 zr_181_10 rfl ?_
                refine zw_push zr_181_11 ?_
                refine zw_C zr_181_12 (Or.inl rfl) zm_144 rfl rfl ⟨Nat.le_of_ble_eq_true rfl, Nat.le_of_ble_eq_true rfl, Nat.le_of_ble_eq_true rfl, rfl, by decide⟩ (by omega) (P := (fun v m' => zW E (d - 1) 181 15 [(2, 69), (0, i6)] (if v.1 = 9 then [] else v :: []) m' Q1)) ?_ (fun _ _ h => h)
                generalize hQ2 : (fun v m' => zW E (d - 1) 181 15 [(2, 69), (0, i6)] (if v.1 = 9 then [] else v :: []) m' Q1) = Q2
                show zW E (d - 1 - 1) 144 0 [(2, 69), (0, i6), (0, 5)] [] m7 Q2
                refine zw_7 zr_144_0 rfl ?_
                refine zw_46r (s := 70) zr_144_1 rfl rfl rfl rfl ?_
                refine zw_push zr_144_4 ?_
                refine zw_push zr_144_6 ?_
                refine zw_3 zr_144_8 rfl ?_
                refine zw_18 zr_144_9 (by omega) ?_
                refine zw_16 zr_144_10 (by omega) ?_
                refine zw_3 zr_144_11 rfl ?_
                refine zw_16 zr_144_12 (by omega) ?_
                refine zw_48 (c := 70) (len := 826) zr_144_13 rfl rfl (by omega) (by omega) ?_
                intro x66 ex66
                have bx66 := ib_70_m5 hIm7 (k := (((90 + (6 * i6)) + 5)).toNat) (by omega)
                rw [← ex66] at bx66
                clear ex66
                refine zw_R zr_144_14 (by decide) zm_144 (v := (0, x66)) rfl ?_
                rw [← hQ2]
                show zW E (d - 1) 181 15 [(2, 69), (0, i6)] [(0, x66)] m7 Q1
                refine zw_40_4 zr_181_15 ?_ ?_
                · intro h67
                  refine zw_push zr_181_22 ?_
                  refine zw_R zr_181_23 (by decide) zm_181 (v := (0, 0)) (zRetB (by omega)) ?_
                  rw [← hQ1]
                  show zW E (d) 184 60 [(2, 69), (0, a0), (0, a1), (0, a2), (0, i6), (9, 0), (9, 0), (9, 0), (9, 0), (9, 0), (9, 0)] [(0, 0)] m7 Q
                  refine zw_40_1 zr_184_60 ?_ ?_
                  · intro h68
                    refine zw_15 (c := 1) (L' := [(2, 69), (0, a0), (0, a1), (0, a2), (0, (i6 + 1)), (9, 0), (9, 0), (9, 0), (9, 0), (9, 0), (9, 0)]) zr_184_239 rfl (by decide) (by omega) rfl ?_
                    refine zw_42 zr_184_242 ?_
                    exact zw_less (L := [(2, 69), (0, a0), (0, a1), (0, a2), (0, (i6 + 1)), (9, 0), (9, 0), (9, 0), (9, 0), (9, 0), (9, 0)]) ⟨Or.inr rfl, Or.inr rfl, Or.inr rfl, Or.inr rfl, Or.inr rfl, Or.inl rfl, Or.inl rfl, Or.inl rfl, Or.inl rfl, Or.inl rfl, Or.inl rfl, trivial⟩ (ihlp45_8 ((i6 + 1)) m7 hIm7 hFm7   (by omega) (by omega)  (by omega))
                  · intro h69; omega
                · intro h70
                  refine zw_push zr_181_18 ?_
                  refine zw_42 zr_181_19 ?_
                  refine zw_R zr_181_23 (by decide) zm_181 (v := (0, 1)) (zRetB (by omega)) ?_
                  rw [← hQ1]
                  show zW E (d) 184 60 [(2, 69), (0, a0), (0, a1), (0, a2), (0, i6), (9, 0), (9, 0), (9, 0), (9, 0), (9, 0), (9, 0)] [(0, 1)] m7 Q
                  refine zw_40_1 zr_184_60 ?_ ?_
                  · intro h71; omega
                  · intro h72
                    refine zw_4 zr_184_63 rfl ?_
                    refine zw_3 zr_184_65 rfl ?_
                    refine zw_41_1 zr_184_66 ?_ ?_
                    · intro h73
                      refine zw_15 (c := 1) (L' := [(2, 69), (0, a0), (0, a1), (0, a2), (0, (i6 + 1)), (9, 0), (9, 0), (9, 0), (9, 0), (9, 0), (9, 0)]) zr_184_239 rfl (by decide) (by omega) rfl ?_
                      refine zw_42 zr_184_242 ?_
                      exact zw_less (L := [(2, 69), (0, a0), (0, a1), (0, a2), (0, (i6 + 1)), (9, 0), (9, 0), (9, 0), (9, 0), (9, 0), (9, 0)]) ⟨Or.inr rfl, Or.inr rfl, Or.inr rfl, Or.inr rfl, Or.inr rfl, Or.inl rfl, Or.inl rfl, Or.inl rfl, Or.inl rfl, Or.inl rfl, Or.inl rfl, trivial⟩ (ihlp45_8 ((i6 + 1)) m7 hIm7 hFm7   (by omega) (by omega)  (by omega))
                    · intro h74
                      refine zw_4 zr_184_69 rfl ?_
                      refine zw_3 zr_184_71 rfl ?_
                      refine zw_41_1 zr_184_72 ?_ ?_
                      · intro h75
                        refine zw_15 (c := 1) (L' := [(2, 69), (0, a0), (0, a1), (0, a2), (0, (i6 + 1)), (9, 0), (9, 0), (9, 0), (9, 0), (9, 0), (9, 0)]) zr_184_239 rfl (by decide) (by omega) rfl ?_
                        refine zw_42 zr_184_242 ?_
                        exact zw_less (L := [(2, 69), (0, a0), (0, a1), (0, a2), (0, (i6 + 1)), (9, 0), (9, 0), (9, 0), (9, 0), (9, 0), (9, 0)]) ⟨Or.inr rfl, Or.inr rfl, Or.inr rfl, Or.inr rfl, Or.inr rfl, Or.inl rfl, Or.inl rfl, Or.inl rfl, Or.inl rfl, Or.inl rfl, Or.inl rfl, trivial⟩ (ihlp45_8 ((i6 + 1)) m7 hIm7 hFm7   (by omega) (by omega)  (by omega))
                      · intro h76
                        refine zw_4 zr_184_75 rfl ?_
                        refine zw_3 zr_184_77 rfl ?_
                        refine zw_41_1 zr_184_78 ?_ ?_
                        · intro h77
                          refine zw_15 (c := 1) (L' := [(2, 69), (0, a0), (0, a1), (0, a2), (0, (i6 + 1)), (9, 0), (9, 0), (9, 0), (9, 0), (9, 0), (9, 0)]) zr_184_239 rfl (by decide) (by omega) rfl ?_
                          refine zw_42 zr_184_242 ?_
                          exact zw_less (L := [(2, 69), (0, a0), (0, a1), (0, a2), (0, (i6 + 1)), (9, 0), (9, 0), (9, 0), (9, 0), (9, 0), (9, 0)]) ⟨Or.inr rfl, Or.inr rfl, Or.inr rfl, Or.inr rfl, Or.inr rfl, Or.inl rfl, Or.inl rfl, Or.inl rfl, Or.inl rfl, Or.inl rfl, Or.inl rfl, trivial⟩ (ihlp45_8 ((i6 + 1)) m7 hIm7 hFm7   (by omega) (by omega)  (by omega))
                        · intro h78
                          refine zw_7 zr_184_81 rfl ?_
                          refine zw_4 zr_184_82 rfl ?_
                          refine zw_push zr_184_84 ?_
                          refine zw_C zr_184_85 (Or.inl rfl) zm_144 rfl rfl ⟨Nat.le_of_ble_eq_true rfl, Nat.le_of_ble_eq_true rfl, Nat.le_of_ble_eq_true rfl, rfl, by decide⟩ (by omega) (P := (fun v m' => zW E (d) 184 88 [(2, 69), (0, a0), (0, a1), (0, a2), (0, i6), (9, 0), (9, 0), (9, 0), (9, 0), (9, 0), (9, 0)] (if v.1 = 9 then [] else v :: []) m' Q)) ?_ (fun _ _ h => h)
                          generalize hQ1 : (fun v m' => zW E (d) 184 88 [(2, 69), (0, a0), (0, a1), (0, a2), (0, i6), (9, 0), (9, 0), (9, 0), (9, 0), (9, 0), (9, 0)] (if v.1 = 9 then [] else v :: []) m' Q) = Q1
                          show zW E (d - 1) 144 0 [(2, 69), (0, i6), (0, 1)] [] m7 Q1
                          refine zw_7 zr_144_0 rfl ?_
                          refine zw_46r (s := 70) zr_144_1 rfl rfl rfl rfl ?_
                          refine zw_push zr_144_4 ?_
                          refine zw_push zr_144_6 ?_
                          refine zw_3 zr_144_8 rfl ?_
                          refine zw_18 zr_144_9 (by omega) ?_
                          refine zw_16 zr_144_10 (by omega) ?_
                          refine zw_3 zr_144_11 rfl ?_
                          refine zw_16 zr_144_12 (by omega) ?_
                          refine zw_48 (c := 70) (len := 826) zr_144_13 rfl rfl (by omega) (by omega) ?_
                          intro x79 ex79
                          have bx79 := ib_70_m1 hIm7 (k := (((90 + (6 * i6)) + 1)).toNat) (by omega)
                          rw [← ex79] at bx79
                          refine zw_R zr_144_14 (by decide) zm_144 (v := (0, x79)) rfl ?_
                          rw [← hQ1]
                          show zW E (d) 184 88 [(2, 69), (0, a0), (0, a1), (0, a2), (0, i6), (9, 0), (9, 0), (9, 0), (9, 0), (9, 0), (9, 0)] [(0, x79)] m7 Q
                          refine zw_10 (L' := [(2, 69), (0, a0), (0, a1), (0, a2), (0, i6), (0, x79), (9, 0), (9, 0), (9, 0), (9, 0), (9, 0)]) zr_184_88 (Nat.le_of_ble_eq_true rfl) rfl ?_
                          refine zw_7 zr_184_90 rfl ?_
                          refine zw_4 zr_184_91 rfl ?_
                          refine zw_push zr_184_93 ?_
                          refine zw_C zr_184_94 (Or.inl rfl) zm_144 rfl rfl ⟨Nat.le_of_ble_eq_true rfl, Nat.le_of_ble_eq_true rfl, Nat.le_of_ble_eq_true rfl, rfl, by decide⟩ (by omega) (P := (fun v m' => zW E (d) 184 97 [(2, 69), (0, a0), (0, a1), (0, a2), (0, i6), (0, x79), (9, 0), (9, 0), (9, 0), (9, 0), (9, 0)] (if v.1 = 9 then [] else v :: []) m' Q)) ?_ (fun _ _ h => h)
                          generalize hQ1 : (fun v m' => zW E (d) 184 97 [(2, 69), (0, a0), (0, a1), (0, a2), (0, i6), (0, x79), (9, 0), (9, 0), (9, 0), (9, 0), (9, 0)] (if v.1 = 9 then [] else v :: []) m' Q) = Q1
                          show zW E (d - 1) 144 0 [(2, 69), (0, i6), (0, 2)] [] m7 Q1
                          refine zw_7 zr_144_0 rfl ?_
                          refine zw_46r (s := 70) zr_144_1 rfl rfl rfl rfl ?_
                          refine zw_push zr_144_4 ?_
                          refine zw_push zr_144_6 ?_
                          refine zw_3 zr_144_8 rfl ?_
                          refine zw_18 zr_144_9 (by omega) ?_
                          refine zw_16 zr_144_10 (by omega) ?_
                          refine zw_3 zr_144_11 rfl ?_
                          refine zw_16 zr_144_12 (by omega) ?_
                          refine zw_48 (c := 70) (len := 826) zr_144_13 rfl rfl (by omega) (by omega) ?_
                          intro x80 ex80
                          have bx80 := ib_70_m2 hIm7 (k := (((90 + (6 * i6)) + 2)).toNat) (by omega)
                          rw [← ex80] at bx80
                          refine zw_R zr_144_14 (by decide) zm_144 (v := (0, x80)) rfl ?_
                          rw [← hQ1]
                          show zW E (d) 184 97 [(2, 69), (0, a0), (0, a1), (0, a2), (0, i6), (0, x79), (9, 0), (9, 0), (9, 0), (9, 0), (9, 0)] [(0, x80)] m7 Q
                          refine zw_10 (L' := [(2, 69), (0, a0), (0, a1), (0, a2), (0, i6), (0, x79), (0, x80), (9, 0), (9, 0), (9, 0), (9, 0)]) zr_184_97 (Nat.le_of_ble_eq_true rfl) rfl ?_
                          refine zw_7 zr_184_99 rfl ?_
                          refine zw_4 zr_184_100 rfl ?_
                          refine zw_7 zr_184_102 rfl ?_
                          refine zw_4 zr_184_103 rfl ?_
                          refine zw_push zr_184_105 ?_
                          refine zw_C zr_184_106 (Or.inl rfl) zm_144 rfl rfl ⟨Nat.le_of_ble_eq_true rfl, Nat.le_of_ble_eq_true rfl, Nat.le_of_ble_eq_true rfl, rfl, by decide⟩ (by omega) (P := (fun v m' => zW E (d) 184 109 [(2, 69), (0, a0), (0, a1), (0, a2), (0, i6), (0, x79), (0, x80), (9, 0), (9, 0), (9, 0), (9, 0)] (if v.1 = 9 then [(0, x79), (2, 69)] else v :: [(0, x79), (2, 69)]) m' Q)) ?_ (fun _ _ h => h)
                          generalize hQ1 : (fun v m' => zW E (d) 184 109 [(2, 69), (0, a0), (0, a1), (0, a2), (0, i6), (0, x79), (0, x80), (9, 0), (9, 0), (9, 0), (9, 0)] (if v.1 = 9 then [(0, x79), (2, 69)] else v :: [(0, x79), (2, 69)]) m' Q) = Q1
                          show zW E (d - 1) 144 0 [(2, 69), (0, i6), (0, 0)] [] m7 Q1
                          refine zw_7 zr_144_0 rfl ?_
                          refine zw_46r (s := 70) zr_144_1 rfl rfl rfl rfl ?_
                          refine zw_push zr_144_4 ?_
                          refine zw_push zr_144_6 ?_
                          refine zw_3 zr_144_8 rfl ?_
                          refine zw_18 zr_144_9 (by omega) ?_
                          refine zw_16 zr_144_10 (by omega) ?_
                          refine zw_3 zr_144_11 rfl ?_
                          refine zw_16 zr_144_12 (by omega) ?_
                          refine zw_48 (c := 70) (len := 826) zr_144_13 rfl rfl (by omega) (by omega) ?_
                          intro x81 ex81
                          have bx81 := ib_70_m0 hIm7 (k := (((90 + (6 * i6)) + 0)).toNat) (by omega)
                          rw [← ex81] at bx81
                          refine zw_R zr_144_14 (by decide) zm_144 (v := (0, x81)) rfl ?_
                          rw [← hQ1]
                          show zW E (d) 184 109 [(2, 69), (0, a0), (0, a1), (0, a2), (0, i6), (0, x79), (0, x80), (9, 0), (9, 0), (9, 0), (9, 0)] [(0, x81), (0, x79), (2, 69)] m7 Q
                          refine zw_C zr_184_109 (Or.inl rfl) zm_182 rfl rfl ⟨Nat.le_of_ble_eq_true rfl, Nat.le_of_ble_eq_true rfl, Nat.le_of_ble_eq_true rfl, rfl, by decide⟩ (by omega) (th_182 (d := d - 1) (by omega) hIm7 (a0 := x79) (a1 := x81)      (by omega) (by omega) ) ?_
                          rintro _ _ ⟨r82, rfl, hr82a, hr82b, rfl⟩
                          show zW E (d) 184 112 [(2, 69), (0, a0), (0, a1), (0, a2), (0, i6), (0, x79), (0, x80), (9, 0), (9, 0), (9, 0), (9, 0)] [(0, r82)] m7 Q
                          refine zw_7 zr_184_112 rfl ?_
                          refine zw_4 zr_184_113 rfl ?_
                          refine zw_7 zr_184_115 rfl ?_
                          refine zw_4 zr_184_116 rfl ?_
                          refine zw_push zr_184_118 ?_
                          refine zw_C zr_184_119 (Or.inl rfl) zm_144 rfl rfl ⟨Nat.le_of_ble_eq_true rfl, Nat.le_of_ble_eq_true rfl, Nat.le_of_ble_eq_true rfl, rfl, by decide⟩ (by omega) (P := (fun v m' => zW E (d) 184 122 [(2, 69), (0, a0), (0, a1), (0, a2), (0, i6), (0, x79), (0, x80), (9, 0), (9, 0), (9, 0), (9, 0)] (if v.1 = 9 then [(0, x80), (2, 69), (0, r82)] else v :: [(0, x80), (2, 69), (0, r82)]) m' Q)) ?_ (fun _ _ h => h)
                          generalize hQ1 : (fun v m' => zW E (d) 184 122 [(2, 69), (0, a0), (0, a1), (0, a2), (0, i6), (0, x79), (0, x80), (9, 0), (9, 0), (9, 0), (9, 0)] (if v.1 = 9 then [(0, x80), (2, 69), (0, r82)] else v :: [(0, x80), (2, 69), (0, r82)]) m' Q) = Q1
                          show zW E (d - 1) 144 0 [(2, 69), (0, i6), (0, 0)] [] m7 Q1
                          refine zw_7 zr_144_0 rfl ?_
                          refine zw_46r (s := 70) zr_144_1 rfl rfl rfl rfl ?_
                          refine zw_push zr_144_4 ?_
                          refine zw_push zr_144_6 ?_
                          refine zw_3 zr_144_8 rfl ?_
                          refine zw_18 zr_144_9 (by omega) ?_
                          refine zw_16 zr_144_10 (by omega) ?_
                          refine zw_3 zr_144_11 rfl ?_
                          refine zw_16 zr_144_12 (by omega) ?_
                          refine zw_48k (c := 70) (len := 826) zr_144_13 rfl rfl (by omega) (by omega) rfl ex81.symm ?_
                          refine zw_R zr_144_14 (by decide) zm_144 (v := (0, x81)) rfl ?_
                          rw [← hQ1]
                          show zW E (d) 184 122 [(2, 69), (0, a0), (0, a1), (0, a2), (0, i6), (0, x79), (0, x80), (9, 0), (9, 0), (9, 0), (9, 0)] [(0, x81), (0, x80), (2, 69), (0, r82)] m7 Q
                          refine zw_C zr_184_122 (Or.inl rfl) zm_182 rfl rfl ⟨Nat.le_of_ble_eq_true rfl, Nat.le_of_ble_eq_true rfl, Nat.le_of_ble_eq_true rfl, rfl, by decide⟩ (by omega) (th_182 (d := d - 1) (by omega) hIm7 (a0 := x80) (a1 := x81)      (by omega) (by omega) ) ?_
                          rintro _ _ ⟨r83, rfl, hr83a, hr83b, rfl⟩
                          show zW E (d) 184 125 [(2, 69), (0, a0), (0, a1), (0, a2), (0, i6), (0, x79), (0, x80), (9, 0), (9, 0), (9, 0), (9, 0)] [(0, r83), (0, r82)] m7 Q
                          refine zw_17h zr_184_125 ?_
                          intro x84 hx84a hx84b
                          refine zw_10 (L' := [(2, 69), (0, a0), (0, a1), (0, a2), (0, i6), (0, x79), (0, x80), (0, x84), (9, 0), (9, 0), (9, 0)]) zr_184_126 (Nat.le_of_ble_eq_true rfl) rfl ?_
                          refine zw_7 zr_184_128 rfl ?_
                          refine zw_4 zr_184_129 rfl ?_
                          refine zw_push zr_184_131 ?_
                          refine zw_C zr_184_132 (Or.inl rfl) zm_144 rfl rfl ⟨Nat.le_of_ble_eq_true rfl, Nat.le_of_ble_eq_true rfl, Nat.le_of_ble_eq_true rfl, rfl, by decide⟩ (by omega) (P := (fun v m' => zW E (d) 184 135 [(2, 69), (0, a0), (0, a1), (0, a2), (0, i6), (0, x79), (0, x80), (0, x84), (9, 0), (9, 0), (9, 0)] (if v.1 = 9 then [] else v :: []) m' Q)) ?_ (fun _ _ h => h)
                          generalize hQ1 : (fun v m' => zW E (d) 184 135 [(2, 69), (0, a0), (0, a1), (0, a2), (0, i6), (0, x79), (0, x80), (0, x84), (9, 0), (9, 0), (9, 0)] (if v.1 = 9 then [] else v :: []) m' Q) = Q1
                          show zW E (d - 1) 144 0 [(2, 69), (0, i6), (0, 3)] [] m7 Q1
                          refine zw_7 zr_144_0 rfl ?_
                          refine zw_46r (s := 70) zr_144_1 rfl rfl rfl rfl ?_
                          refine zw_push zr_144_4 ?_
                          refine zw_push zr_144_6 ?_
                          refine zw_3 zr_144_8 rfl ?_
                          refine zw_18 zr_144_9 (by omega) ?_
                          refine zw_16 zr_144_10 (by omega) ?_
                          refine zw_3 zr_144_11 rfl ?_
                          refine zw_16 zr_144_12 (by omega) ?_
                          refine zw_48 (c := 70) (len := 826) zr_144_13 rfl rfl (by omega) (by omega) ?_
                          intro x85 ex85
                          have bx85 := ib_70_m3 hIm7 (k := (((90 + (6 * i6)) + 3)).toNat) (by omega)
                          rw [← ex85] at bx85
                          refine zw_R zr_144_14 (by decide) zm_144 (v := (0, x85)) rfl ?_
                          rw [← hQ1]
                          show zW E (d) 184 135 [(2, 69), (0, a0), (0, a1), (0, a2), (0, i6), (0, x79), (0, x80), (0, x84), (9, 0), (9, 0), (9, 0)] [(0, x85)] m7 Q
                          refine zw_10 (L' := [(2, 69), (0, a0), (0, a1), (0, a2), (0, i6), (0, x79), (0, x80), (0, x84), (0, x85), (9, 0), (9, 0)]) zr_184_135 (Nat.le_of_ble_eq_true rfl) rfl ?_
                          refine zw_4 zr_184_137 rfl ?_
                          refine zw_push zr_184_139 ?_
                          refine zw_41_4 zr_184_140 ?_ ?_
                          · intro h86
                            refine zw_4 zr_184_147 rfl ?_
                            refine zw_push zr_184_149 ?_
                            refine zw_41_4 zr_184_150 ?_ ?_
                            · intro h87
                              refine zw_7 zr_184_165 rfl ?_
                              refine zw_46r (s := 70) zr_184_166 rfl rfl rfl rfl ?_
                              refine zw_push zr_184_169 ?_
                              obtain ⟨f88, ef88⟩ : ∃ v, m7 70 824 = v := ⟨_, rfl⟩
                              have bf88 : 1 ≤ m7 70 824 ∧ m7 70 824 ≤ 1000 := ib_70_wide hIm7 (by omega)
                              rw [ef88] at bf88
                              refine zw_48k (c := 70) (len := 826) zr_184_172 rfl rfl (by omega) (by omega) (show (824 : Int).toNat = 824 by omega) ef88 ?_
                              refine zw_38 zr_184_173 (by omega) ?_
                              refine zw_10 (L' := [(2, 69), (0, a0), (0, a1), (0, a2), (0, i6), (0, x79), (0, x80), (0, x84), (0, x85), (0, (-f88)), (9, 0)]) zr_184_174 (Nat.le_of_ble_eq_true rfl) rfl ?_
                              refine zw_4 zr_184_176 rfl ?_
                              refine zw_push zr_184_178 ?_
                              refine zw_41_4 zr_184_179 ?_ ?_
                              · intro h89
                                refine zw_4 zr_184_193 rfl ?_
                                refine zw_push zr_184_195 ?_
                                refine zw_41_4 zr_184_196 ?_ ?_
                                · intro h90
                                  refine zw_push zr_184_210 ?_
                                  refine zw_10 (L' := [(2, 69), (0, a0), (0, a1), (0, a2), (0, i6), (0, x79), (0, x80), (0, x84), (0, x85), (0, (-f88)), (0, (-1))]) zr_184_211 (Nat.le_of_ble_eq_true rfl) rfl ?_
                                  refine zw_7 zr_184_213 rfl ?_
                                  refine zw_4 zr_184_214 rfl ?_
                                  refine zw_4 zr_184_216 rfl ?_
                                  refine zw_4 zr_184_218 rfl ?_
                                  refine zw_4 zr_184_220 rfl ?_
                                  refine zw_17 zr_184_222 (by omega) ?_
                                  refine zw_C zr_184_223 (Or.inl rfl) zm_183 rfl rfl ⟨Nat.le_of_ble_eq_true rfl, Nat.le_of_ble_eq_true rfl, Nat.le_of_ble_eq_true rfl, rfl, by decide⟩ (by omega) (th_183 (d := d - 1) (by omega) hIm7 (a0 := x79) (a1 := x80) (a2 := ((-1) - x84))      (by omega) (by omega) (by omega) ) ?_
                                  rintro _ m91 ⟨rfl, hIm91, gm91⟩
                                  have hFm91 : zFr W_184 m0 m91 := hFm7.trans gm91 rfl
                                  have km91_70_823 : m91 70 823 = f10 := (gm91 70 823 rfl).trans ef10
                                  have km91_70_824 : m91 70 824 = f88 := (gm91 70 824 rfl).trans ef88
                                  show zW E (d) 184 226 [(2, 69), (0, a0), (0, a1), (0, a2), (0, i6), (0, x79), (0, x80), (0, x84), (0, x85), (0, (-f88)), (0, (-1))] [] m91 Q
                                  refine zw_7 zr_184_226 rfl ?_
                                  refine zw_4 zr_184_227 rfl ?_
                                  refine zw_4 zr_184_229 rfl ?_
                                  refine zw_4 zr_184_231 rfl ?_
                                  refine zw_4 zr_184_233 rfl ?_
                                  refine zw_17h zr_184_235 ?_
                                  intro x92 hx92a hx92b
                                  refine zw_C zr_184_236 (Or.inl rfl) zm_183 rfl rfl ⟨Nat.le_of_ble_eq_true rfl, Nat.le_of_ble_eq_true rfl, Nat.le_of_ble_eq_true rfl, rfl, by decide⟩ (by omega) (th_183 (d := d - 1) (by omega) hIm91 (a0 := x80) (a1 := x79) (a2 := x92)      (by omega) (by omega) (by omega) ) ?_
                                  rintro _ m93 ⟨rfl, hIm93, gm93⟩
                                  have hFm93 : zFr W_184 m0 m93 := hFm91.trans gm93 rfl
                                  have km93_70_823 : m93 70 823 = f10 := (gm93 70 823 rfl).trans km91_70_823
                                  have km93_70_824 : m93 70 824 = f88 := (gm93 70 824 rfl).trans km91_70_824
                                  show zW E (d) 184 239 [(2, 69), (0, a0), (0, a1), (0, a2), (0, i6), (0, x79), (0, x80), (0, x84), (0, x85), (0, (-f88)), (0, (-1))] [] m93 Q
                                  refine zw_15 (c := 1) (L' := [(2, 69), (0, a0), (0, a1), (0, a2), (0, (i6 + 1)), (0, x79), (0, x80), (0, x84), (0, x85), (0, (-f88)), (0, (-1))]) zr_184_239 rfl (by decide) (by omega) rfl ?_
                                  refine zw_42 zr_184_242 ?_
                                  exact zw_less (L := [(2, 69), (0, a0), (0, a1), (0, a2), (0, (i6 + 1)), (9, 0), (9, 0), (9, 0), (9, 0), (9, 0), (9, 0)]) ⟨Or.inr rfl, Or.inr rfl, Or.inr rfl, Or.inr rfl, Or.inr rfl, Or.inl rfl, Or.inl rfl, Or.inl rfl, Or.inl rfl, Or.inl rfl, Or.inl rfl, trivial⟩ (ihlp45_8 ((i6 + 1)) m93 hIm93 hFm93   (by omega) (by omega)  (by omega))
                                · intro h94; omega
                              · intro h95; omega
                            · intro h96
                              refine zw_7 zr_184_153 rfl ?_
                              refine zw_46r (s := 70) zr_184_154 rfl rfl rfl rfl ?_
                              refine zw_push zr_184_157 ?_
                              obtain ⟨f97, ef97⟩ : ∃ v, m7 70 825 = v := ⟨_, rfl⟩
                              have bf97 : 0 ≤ m7 70 825 ∧ m7 70 825 ≤ 500 := ib_70_even hIm7 (by omega)
                              rw [ef97] at bf97
                              refine zw_48k (c := 70) (len := 826) zr_184_160 rfl rfl (by omega) (by omega) (show (825 : Int).toNat = 825 by omega) ef97 ?_
                              refine zw_38 zr_184_161 (by omega) ?_
                              refine zw_42 zr_184_162 ?_
                              refine zw_10 (L' := [(2, 69), (0, a0), (0, a1), (0, a2), (0, i6), (0, x79), (0, x80), (0, x84), (0, x85), (0, (-f97)), (9, 0)]) zr_184_174 (Nat.le_of_ble_eq_true rfl) rfl ?_
                              refine zw_4 zr_184_176 rfl ?_
                              refine zw_push zr_184_178 ?_
                              refine zw_41_4 zr_184_179 ?_ ?_
                              · intro h98
                                refine zw_4 zr_184_193 rfl ?_
                                refine zw_push zr_184_195 ?_
                                refine zw_41_4 zr_184_196 ?_ ?_
                                · intro h99; omega
                                · intro h100
                                  refine zw_7 zr_184_199 rfl ?_
                                  refine zw_46r (s := 70) zr_184_200 rfl rfl rfl rfl ?_
                                  refine zw_push zr_184_203 ?_
                                  refine zw_48k (c := 70) (len := 826) zr_184_206 rfl rfl (by omega) (by omega) (show (825 : Int).toNat = 825 by omega) ef97 ?_
                                  refine zw_42 zr_184_207 ?_
                                  refine zw_10 (L' := [(2, 69), (0, a0), (0, a1), (0, a2), (0, i6), (0, x79), (0, x80), (0, x84), (0, x85), (0, (-f97)), (0, f97)]) zr_184_211 (Nat.le_of_ble_eq_true rfl) rfl ?_
                                  refine zw_7 zr_184_213 rfl ?_
                                  refine zw_4 zr_184_214 rfl ?_
                                  refine zw_4 zr_184_216 rfl ?_
                                  refine zw_4 zr_184_218 rfl ?_
                                  refine zw_4 zr_184_220 rfl ?_
                                  refine zw_17h zr_184_222 ?_
                                  intro x101 hx101a hx101b
                                  refine zw_C zr_184_223 (Or.inl rfl) zm_183 rfl rfl ⟨Nat.le_of_ble_eq_true rfl, Nat.le_of_ble_eq_true rfl, Nat.le_of_ble_eq_true rfl, rfl, by decide⟩ (by omega) (th_183 (d := d - 1) (by omega) hIm7 (a0 := x79) (a1 := x80) (a2 := x101)      (by omega) (by omega) (by omega) ) ?_
                                  rintro _ m102 ⟨rfl, hIm102, gm102⟩
                                  have hFm102 : zFr W_184 m0 m102 := hFm7.trans gm102 rfl
                                  have km102_70_823 : m102 70 823 = f10 := (gm102 70 823 rfl).trans ef10
                                  have km102_70_825 : m102 70 825 = f97 := (gm102 70 825 rfl).trans ef97
                                  show zW E (d) 184 226 [(2, 69), (0, a0), (0, a1), (0, a2), (0, i6), (0, x79), (0, x80), (0, x84), (0, x85), (0, (-f97)), (0, f97)] [] m102 Q
                                  refine zw_7 zr_184_226 rfl ?_
                                  refine zw_4 zr_184_227 rfl ?_
                                  refine zw_4 zr_184_229 rfl ?_
                                  refine zw_4 zr_184_231 rfl ?_
                                  refine zw_4 zr_184_233 rfl ?_
                                  refine zw_17h zr_184_235 ?_
                                  intro x103 hx103a hx103b
                                  refine zw_C zr_184_236 (Or.inl rfl) zm_183 rfl rfl ⟨Nat.le_of_ble_eq_true rfl, Nat.le_of_ble_eq_true rfl, Nat.le_of_ble_eq_true rfl, rfl, by decide⟩ (by omega) (th_183 (d := d - 1) (by omega) hIm102 (a0 := x80) (a1 := x79) (a2 := x103)      (by omega) (by omega) (by omega) ) ?_
                                  rintro _ m104 ⟨rfl, hIm104, gm104⟩
                                  have hFm104 : zFr W_184 m0 m104 := hFm102.trans gm104 rfl
                                  have km104_70_823 : m104 70 823 = f10 := (gm104 70 823 rfl).trans km102_70_823
                                  have km104_70_825 : m104 70 825 = f97 := (gm104 70 825 rfl).trans km102_70_825
                                  show zW E (d) 184 239 [(2, 69), (0, a0), (0, a1), (0, a2), (0, i6), (0, x79), (0, x80), (0, x84), (0, x85), (0, (-f97)), (0, f97)] [] m104 Q
                                  refine zw_15 (c := 1) (L' := [(2, 69), (0, a0), (0, a1), (0, a2), (0, (i6 + 1)), (0, x79), (0, x80), (0, x84), (0, x85), (0, (-f97)), (0, f97)]) zr_184_239 rfl (by decide) (by omega) rfl ?_
                                  refine zw_42 zr_184_242 ?_
                                  exact zw_less (L := [(2, 69), (0, a0), (0, a1), (0, a2), (0, (i6 + 1)), (9, 0), (9, 0), (9, 0), (9, 0), (9, 0), (9, 0)]) ⟨Or.inr rfl, Or.inr rfl, Or.inr rfl, Or.inr rfl, Or.inr rfl, Or.inl rfl, Or.inl rfl, Or.inl rfl, Or.inl rfl, Or.inl rfl, Or.inl rfl, trivial⟩ (ihlp45_8 ((i6 + 1)) m104 hIm104 hFm104   (by omega) (by omega)  (by omega))
                              · intro h105; omega
                          · intro h106
                            refine zw_push zr_184_143 ?_
                            refine zw_42 zr_184_144 ?_
                            refine zw_10 (L' := [(2, 69), (0, a0), (0, a1), (0, a2), (0, i6), (0, x79), (0, x80), (0, x84), (0, x85), (0, 1), (9, 0)]) zr_184_174 (Nat.le_of_ble_eq_true rfl) rfl ?_
                            refine zw_4 zr_184_176 rfl ?_
                            refine zw_push zr_184_178 ?_
                            refine zw_41_4 zr_184_179 ?_ ?_
                            · intro h107; omega
                            · intro h108
                              refine zw_7 zr_184_182 rfl ?_
                              refine zw_46r (s := 70) zr_184_183 rfl rfl rfl rfl ?_
                              refine zw_push zr_184_186 ?_
                              obtain ⟨f109, ef109⟩ : ∃ v, m7 70 824 = v := ⟨_, rfl⟩
                              have bf109 : 1 ≤ m7 70 824 ∧ m7 70 824 ≤ 1000 := ib_70_wide hIm7 (by omega)
                              rw [ef109] at bf109
                              refine zw_48k (c := 70) (len := 826) zr_184_189 rfl rfl (by omega) (by omega) (show (824 : Int).toNat = 824 by omega) ef109 ?_
                              refine zw_42 zr_184_190 ?_
                              refine zw_10 (L' := [(2, 69), (0, a0), (0, a1), (0, a2), (0, i6), (0, x79), (0, x80), (0, x84), (0, x85), (0, 1), (0, f109)]) zr_184_211 (Nat.le_of_ble_eq_true rfl) rfl ?_
                              refine zw_7 zr_184_213 rfl ?_
                              refine zw_4 zr_184_214 rfl ?_
                              refine zw_4 zr_184_216 rfl ?_
                              refine zw_4 zr_184_218 rfl ?_
                              refine zw_4 zr_184_220 rfl ?_
                              refine zw_17h zr_184_222 ?_
                              intro x110 hx110a hx110b
                              refine zw_C zr_184_223 (Or.inl rfl) zm_183 rfl rfl ⟨Nat.le_of_ble_eq_true rfl, Nat.le_of_ble_eq_true rfl, Nat.le_of_ble_eq_true rfl, rfl, by decide⟩ (by omega) (th_183 (d := d - 1) (by omega) hIm7 (a0 := x79) (a1 := x80) (a2 := x110)      (by omega) (by omega) (by omega) ) ?_
                              rintro _ m111 ⟨rfl, hIm111, gm111⟩
                              have hFm111 : zFr W_184 m0 m111 := hFm7.trans gm111 rfl
                              have km111_70_823 : m111 70 823 = f10 := (gm111 70 823 rfl).trans ef10
                              have km111_70_824 : m111 70 824 = f109 := (gm111 70 824 rfl).trans ef109
                              show zW E (d) 184 226 [(2, 69), (0, a0), (0, a1), (0, a2), (0, i6), (0, x79), (0, x80), (0, x84), (0, x85), (0, 1), (0, f109)] [] m111 Q
                              refine zw_7 zr_184_226 rfl ?_
                              refine zw_4 zr_184_227 rfl ?_
                              refine zw_4 zr_184_229 rfl ?_
                              refine zw_4 zr_184_231 rfl ?_
                              refine zw_4 zr_184_233 rfl ?_
                              refine zw_17h zr_184_235 ?_
                              intro x112 hx112a hx112b
                              refine zw_C zr_184_236 (Or.inl rfl) zm_183 rfl rfl ⟨Nat.le_of_ble_eq_true rfl, Nat.le_of_ble_eq_true rfl, Nat.le_of_ble_eq_true rfl, rfl, by decide⟩ (by omega) (th_183 (d := d - 1) (by omega) hIm111 (a0 := x80) (a1 := x79) (a2 := x112)      (by omega) (by omega) (by omega) ) ?_
                              rintro _ m113 ⟨rfl, hIm113, gm113⟩
                              have hFm113 : zFr W_184 m0 m113 := hFm111.trans gm113 rfl
                              have km113_70_823 : m113 70 823 = f10 := (gm113 70 823 rfl).trans km111_70_823
                              have km113_70_824 : m113 70 824 = f109 := (gm113 70 824 rfl).trans km111_70_824
                              show zW E (d) 184 239 [(2, 69), (0, a0), (0, a1), (0, a2), (0, i6), (0, x79), (0, x80), (0, x84), (0, x85), (0, 1), (0, f109)] [] m113 Q
                              refine zw_15 (c := 1) (L' := [(2, 69), (0, a0), (0, a1), (0, a2), (0, (i6 + 1)), (0, x79), (0, x80), (0, x84), (0, x85), (0, 1), (0, f109)]) zr_184_239 rfl (by decide) (by omega) rfl ?_
                              refine zw_42 zr_184_242 ?_
                              exact zw_less (L := [(2, 69), (0, a0), (0, a1), (0, a2), (0, (i6 + 1)), (9, 0), (9, 0), (9, 0), (9, 0), (9, 0), (9, 0)]) ⟨Or.inr rfl, Or.inr rfl, Or.inr rfl, Or.inr rfl, Or.inr rfl, Or.inl rfl, Or.inl rfl, Or.inl rfl, Or.inl rfl, Or.inl rfl, Or.inl rfl, trivial⟩ (ihlp45_8 ((i6 + 1)) m113 hIm113 hFm113   (by omega) (by omega)  (by omega))
        exact lp45_8 _ (0) m2 hIm2 hFm2   (by omega) (by omega)  (Nat.lt_succ_self _)
      · intro h114
        refine zw_7 zr_184_10 rfl ?_
        refine zw_46r (s := 80) zr_184_11 rfl rfl rfl rfl ?_
        refine zw_4 zr_184_14 rfl ?_
        refine zw_4 zr_184_16 rfl ?_
        refine zw_push zr_184_18 ?_
        refine zw_19 zr_184_20 (by omega) (by omega) (by omega) (by omega) ?_
        refine zw_4 zr_184_21 rfl ?_
        refine zw_push zr_184_23 ?_
        refine zw_20 zr_184_25 (by omega) (by omega) (by omega) (by omega) ?_
        refine zw_41_4 zr_184_26 ?_ ?_
        · intro h115
          refine zw_push zr_184_33 ?_
          refine zw_49 (c := 80) (len := 100) zr_184_35 rfl rfl (by omega) (by omega) ?_
          intro m116 em116
          have hIm116 : zInv m116 := by rw [em116]; exact hIm2.any (by omega) rfl (by decide) (by decide)
          have hFm116 : zFr W_184 m0 m116 := by rw [em116]; exact hFm2.any rfl
          clear em116
          refine zw_15 (c := 1) (L' := [(2, 69), (0, a0), (0, a1), (0, a2), (0, (i1 + 1)), (9, 0), (9, 0), (9, 0), (9, 0), (9, 0), (9, 0)]) zr_184_36 rfl (by decide) (by omega) rfl ?_
          refine zw_42 zr_184_39 ?_
          exact zw_less (L := [(2, 69), (0, a0), (0, a1), (0, a2), (0, (i1 + 1)), (9, 0), (9, 0), (9, 0), (9, 0), (9, 0), (9, 0)]) ⟨Or.inr rfl, Or.inr rfl, Or.inr rfl, Or.inr rfl, Or.inr rfl, Or.inl rfl, Or.inl rfl, Or.inl rfl, Or.inl rfl, Or.inl rfl, Or.inl rfl, trivial⟩ (ihlp3_3 ((i1 + 1)) m116 hIm116 hFm116   (by omega) (by omega)  (by omega))
        · intro h117
          refine zw_push zr_184_29 ?_
          refine zw_42 zr_184_30 ?_
          refine zw_49 (c := 80) (len := 100) zr_184_35 rfl rfl (by omega) (by omega) ?_
          intro m118 em118
          have hIm118 : zInv m118 := by rw [em118]; exact hIm2.any (by omega) rfl (by decide) (by decide)
          have hFm118 : zFr W_184 m0 m118 := by rw [em118]; exact hFm2.any rfl
          clear em118
          refine zw_15 (c := 1) (L' := [(2, 69), (0, a0), (0, a1), (0, a2), (0, (i1 + 1)), (9, 0), (9, 0), (9, 0), (9, 0), (9, 0), (9, 0)]) zr_184_36 rfl (by decide) (by omega) rfl ?_
          refine zw_42 zr_184_39 ?_
          exact zw_less (L := [(2, 69), (0, a0), (0, a1), (0, a2), (0, (i1 + 1)), (9, 0), (9, 0), (9, 0), (9, 0), (9, 0), (9, 0)]) ⟨Or.inr rfl, Or.inr rfl, Or.inr rfl, Or.inr rfl, Or.inr rfl, Or.inl rfl, Or.inl rfl, Or.inl rfl, Or.inl rfl, Or.inl rfl, Or.inl rfl, trivial⟩ (ihlp3_3 ((i1 + 1)) m118 hIm118 hFm118   (by omega) (by omega)  (by omega))
  exact lp3_3 _ (0) m0 hI0 hF0   (by omega) (by omega)  (Nat.lt_succ_self _)

abbrev W_185 : List (Nat × Nat) := [(80, 1000)]
set_option maxHeartbeats 8000000 in
theorem th_185 {E : zE} {d : Nat} {m0 : zM} (hd : 4 ≤ d) (hI0 : zInv m0) : zC E d 185 [(2, 69)] m0 (fun v m' => ∃ r : Int, v = (0, r) ∧ 0 ≤ r ∧ r ≤ 1 ∧ zInv m' ∧ zFr W_185 m0 m') := by
  have hF0 : zFr W_185 m0 m0 := zFr.rfl
  generalize hQ : (fun (v : zV) (m' : zM) => ∃ r : Int, v = (0, r) ∧ 0 ≤ r ∧ r ≤ 1 ∧ zInv m' ∧ zFr W_185 m0 m') = Q
  show zW E d 185 0 [(2, 69)] [] m0 Q
  refine zw_7 zr_185_0 rfl ?_
  refine zw_push zr_185_1 ?_
  refine zw_push zr_185_2 ?_
  refine zw_push zr_185_3 ?_
  refine zw_C zr_185_4 (Or.inl rfl) zm_184 rfl rfl ⟨Nat.le_of_ble_eq_true rfl, Nat.le_of_ble_eq_true rfl, Nat.le_of_ble_eq_true rfl, rfl, by decide⟩ (by omega) (th_184 (d := d - 1) (by omega) hI0 (a0 := (-1)) (a1 := (-1)) (a2 := (-1))      (by omega) (by omega) (by omega) ) ?_
  rintro _ m1 ⟨r2, rfl, hr2a, hr2b, hIm1, gm1⟩
  have hFm1 : zFr W_185 m0 m1 := hF0.trans gm1 rfl
  show zW E (d) 185 7 [(2, 69)] [(0, r2)] m1 Q
  refine zw_40_1 zr_185_7 ?_ ?_
  · intro h3
    refine zw_push zr_185_14 ?_
    refine zw_R zr_185_15 (by decide) zm_185 (v := (0, 1)) rfl ?_
    rw [← hQ]; exact ⟨_, rfl, by omega, by omega, hIm1, hFm1⟩
  · intro h4
    refine zw_push zr_185_10 ?_
    refine zw_42 zr_185_11 ?_
    refine zw_R zr_185_15 (by decide) zm_185 (v := (0, 0)) rfl ?_
    rw [← hQ]; exact ⟨_, rfl, by omega, by omega, hIm1, hFm1⟩

abbrev W_4_61 : List (Nat × Nat) := [(61, 1000)]
set_option maxHeartbeats 8000000 in
theorem th_4_61 {E : zE} {d : Nat} {m0 : zM} {a0 : Int} (hd : 1 ≤ d) (hI0 : zInv m0) (ha0 : 0 ≤ a0 ∧ a0 ≤ 0) : zC E d 4 [(2, 61), (0, a0)] m0 (fun v m' => v = (9, 0) ∧ zInv m' ∧ zFr W_4_61 m0 m') := by
  have hF0 : zFr W_4_61 m0 m0 := zFr.rfl
  generalize hQ : (fun (v : zV) (m' : zM) => v = (9, 0) ∧ zInv m' ∧ zFr W_4_61 m0 m') = Q
  show zW E d 4 0 [(2, 61), (0, a0), (9, 0), (9, 0)] [] m0 Q
  refine zw_push zr_4_0 ?_
  refine zw_9 (L' := [(2, 61), (0, a0), (0, 0), (9, 0)]) zr_4_1 (Nat.le_of_ble_eq_true rfl) rfl ?_
  refine zw_7 zr_4_2 rfl ?_
  refine zw_101 (c := 61) (len := 10) zr_4_3 rfl rfl (by decide) ?_
  refine zw_9 (L' := [(2, 61), (0, a0), (0, 0), (0, 10)]) zr_4_4 (Nat.le_of_ble_eq_true rfl) rfl ?_
  have lp5_3 : ∀ (nlp5_3 : Nat) (i1 : Int) (m2 : zM), zInv m2 → zFr W_4_61 m0 m2 → 0 ≤ i1 → i1 ≤ 10 → (10 - i1).toNat < nlp5_3 → zW E (d) 4 5 [(2, 61), (0, a0), (0, i1), (0, 10)] [] m2 Q := by
    intro nlp5_3
    induction nlp5_3 with
    | zero =>
      intros
      exact absurd (by assumption : _ < 0) (Nat.not_lt_zero _)
    | succ nlp5_3 ihlp5_3 =>
      intro i1 m2 hIm2 hFm2 li1 ui1 hmlp5_3
      refine zw_3 zr_4_5 rfl ?_
      refine zw_3 zr_4_6 rfl ?_
      refine zw_41_3 zr_4_7 ?_ ?_
      · intro h5
        refine zw_R zr_4_20 (by decide) zm_4 (v := (9, 0)) rfl ?_
        rw [← hQ]; exact ⟨rfl, hIm2, hFm2⟩
      · intro h6
        refine zw_7 zr_4_10 rfl ?_
        refine zw_3 zr_4_11 rfl ?_
        refine zw_3 zr_4_12 rfl ?_
        refine zw_49 (c := 61) (len := 10) zr_4_13 rfl rfl (by omega) (by omega) ?_
        intro m7 em7
        have hIm7 : zInv m7 := by rw [em7]; exact hIm2.any (by omega) rfl (by decide) (by decide)
        have hFm7 : zFr W_4_61 m0 m7 := by rw [em7]; exact hFm2.any rfl
        clear em7
        refine zw_15 (c := 1) (L' := [(2, 61), (0, a0), (0, (i1 + 1)), (0, 10)]) zr_4_14 rfl (by decide) (by omega) rfl ?_
        refine zw_42 zr_4_17 ?_
        exact zw_less (L := [(2, 61), (0, a0), (0, (i1 + 1)), (0, 10)]) ⟨Or.inr rfl, Or.inr rfl, Or.inr rfl, Or.inr rfl, trivial⟩ (ihlp5_3 ((i1 + 1)) m7 hIm7 hFm7   (by omega) (by omega)  (by omega))
  exact lp5_3 _ (0) m0 hI0 hF0   (by omega) (by omega)  (Nat.lt_succ_self _)

abbrev W_66 : List (Nat × Nat) := [(61, 1000)]
set_option maxHeartbeats 8000000 in
theorem th_66 {E : zE} {d : Nat} {m0 : zM} {a0 : Int} (hd : 2 ≤ d) (hI0 : zInv m0) (ha0 : (-9223372036854775808) ≤ a0 ∧ a0 ≤ 9223372036854775807) : zC E d 66 [(2, 60), (1, a0)] m0 (fun v m' => v = (9, 0) ∧ zInv m' ∧ zFr W_66 m0 m') := by
  have hF0 : zFr W_66 m0 m0 := zFr.rfl
  generalize hQ : (fun (v : zV) (m' : zM) => v = (9, 0) ∧ zInv m' ∧ zFr W_66 m0 m') = Q
  show zW E d 66 0 [(2, 60), (1, a0), (9, 0), (9, 0)] [] m0 Q
  refine zw_7 zr_66_0 rfl ?_
  refine zw_46r (s := 61) zr_66_1 rfl rfl rfl rfl ?_
  refine zw_push zr_66_4 ?_
  refine zw_C zr_66_5 (Or.inr rfl) zm_4 rfl rfl ⟨Nat.le_of_ble_eq_true rfl, Nat.le_of_ble_eq_true rfl, Nat.le_of_ble_eq_true rfl, rfl, by decide⟩ (by omega) (th_4_61 (d := d - 1) (by omega) hI0 (a0 := 0)      (by omega) ) ?_
  rintro _ m1 ⟨rfl, hIm1, gm1⟩
  have hFm1 : zFr W_66 m0 m1 := hF0.trans gm1 rfl
  show zW E (d) 66 8 [(2, 60), (1, a0), (9, 0), (9, 0)] [] m1 Q
  refine zw_push zr_66_8 ?_
  refine zw_9 (L' := [(2, 60), (1, a0), (9, 0), (0, 0)]) zr_66_9 (Nat.le_of_ble_eq_true rfl) rfl ?_
  have lp10_4 : ∀ (nlp10_4 : Nat) (i2 : Int) (m3 : zM), zInv m3 → zFr W_66 m0 m3 → 0 ≤ i2 → i2 ≤ 60 → (60 - i2).toNat < nlp10_4 → zW E (d) 66 10 [(2, 60), (1, a0), (9, 0), (0, i2)] [] m3 Q := by
    intro nlp10_4
    induction nlp10_4 with
    | zero =>
      intros
      exact absurd (by assumption : _ < 0) (Nat.not_lt_zero _)
    | succ nlp10_4 ihlp10_4 =>
      intro i2 m3 hIm3 hFm3 li2 ui2 hmlp10_4
      refine zw_3 zr_66_10 rfl ?_
      refine zw_7 zr_66_11 rfl ?_
      refine zw_46r (s := 1) zr_66_12 rfl rfl rfl rfl ?_
      obtain ⟨f6, ef6⟩ : ∃ v, m3 1 1 = v := ⟨_, rfl⟩
      have bf6 := ib_1_1 hIm3
      rw [ef6] at bf6
      refine zw_46i zr_66_15 ef6 rfl rfl rfl ?_
      refine zw_41_3 zr_66_18 ?_ ?_
      · intro h7
        refine zw_R zr_66_93 (by decide) zm_66 (v := (9, 0)) rfl ?_
        rw [← hQ]; exact ⟨rfl, hIm3, hFm3⟩
      · intro h8
        refine zw_5 zr_66_21 rfl ?_
        refine zw_3 zr_66_22 rfl ?_
        refine zw_34h zr_66_23 ?_
        intro x9 hx9a hx9b
        refine zw_push zr_66_24 ?_
        refine zw_30h zr_66_25 ?_
        intro x10 hx10a hx10b
        refine zw_push zr_66_26 ?_
        refine zw_39_1 zr_66_27 zr_66_28 ?_ ?_
        · intro h11
          refine zw_15 (c := 1) (L' := [(2, 60), (1, a0), (9, 0), (0, (i2 + 1))]) zr_66_87 rfl (by decide) (by omega) rfl ?_
          refine zw_42 zr_66_90 ?_
          exact zw_less (L := [(2, 60), (1, a0), (9, 0), (0, (i2 + 1))]) ⟨Or.inr rfl, Or.inr rfl, Or.inl rfl, Or.inr rfl, trivial⟩ (ihlp10_4 ((i2 + 1)) m3 hIm3 hFm3   (by omega) (by omega)  (by omega))
        · intro h12
          refine zw_7 zr_66_31 rfl ?_
          refine zw_46r (s := 61) zr_66_32 rfl rfl rfl rfl ?_
          refine zw_7 zr_66_35 rfl ?_
          refine zw_46r (s := 1) zr_66_36 rfl rfl rfl rfl ?_
          refine zw_46r (s := 6) zr_66_39 rfl rfl rfl rfl ?_
          refine zw_3 zr_66_42 rfl ?_
          refine zw_48 (c := 6) (len := 60) zr_66_43 rfl rfl (by omega) (by omega) ?_
          intro x13 ex13
          have bx13 := ib_6 hIm3 (k := (i2).toNat) (by omega)
          rw [← ex13] at bx13
          clear ex13
          refine zw_45 zr_66_44 ⟨rfl, rfl⟩ ?_
          refine zw_48 (c := 61) (len := 10) zr_66_45 rfl rfl (by omega) (by omega) ?_
          intro x14 ex14
          have bx14 := hIm3.ra (c := 61) (len := 10) (k := (x13).toNat) rfl (by omega)
          rw [← ex14] at bx14
          clear ex14
          refine zw_push zr_66_46 ?_
          refine zw_7 zr_66_47 rfl ?_
          refine zw_46r (s := 1) zr_66_48 rfl rfl rfl rfl ?_
          refine zw_46r (s := 7) zr_66_51 rfl rfl rfl rfl ?_
          refine zw_3 zr_66_54 rfl ?_
          refine zw_48 (c := 7) (len := 60) zr_66_55 rfl rfl (by omega) (by omega) ?_
          intro x15 ex15
          have bx15 := ib_7 hIm3 (k := (i2).toNat) (by omega)
          rw [← ex15] at bx15
          clear ex15
          refine zw_24h zr_66_56 ?_
          intro x16 hx16a hx16b
          refine zw_22h zr_66_57 ?_
          intro x17 hx17a hx17b
          refine zw_49 (c := 61) (len := 10) zr_66_58 rfl rfl (by omega) (by omega) ?_
          intro m18 em18
          have hIm18 : zInv m18 := by rw [em18]; exact hIm3.any (by omega) rfl (by decide) (by decide)
          have hFm18 : zFr W_66 m0 m18 := by rw [em18]; exact hFm3.any rfl
          have km18_1_1 : m18 1 1 = f6 := by rw [em18, zUp_ne (by omega)]; exact ef6
          clear em18
          refine zw_7 zr_66_59 rfl ?_
          refine zw_46r (s := 61) zr_66_60 rfl rfl rfl rfl ?_
          refine zw_7 zr_66_63 rfl ?_
          refine zw_46r (s := 1) zr_66_64 rfl rfl rfl rfl ?_
          refine zw_46r (s := 7) zr_66_67 rfl rfl rfl rfl ?_
          refine zw_3 zr_66_70 rfl ?_
          refine zw_48 (c := 7) (len := 60) zr_66_71 rfl rfl (by omega) (by omega) ?_
          intro x19 ex19
          have bx19 := ib_7 hIm18 (k := (i2).toNat) (by omega)
          rw [← ex19] at bx19
          clear ex19
          refine zw_45 zr_66_72 ⟨rfl, rfl⟩ ?_
          refine zw_48 (c := 61) (len := 10) zr_66_73 rfl rfl (by omega) (by omega) ?_
          intro x20 ex20
          have bx20 := hIm18.ra (c := 61) (len := 10) (k := (x19).toNat) rfl (by omega)
          rw [← ex20] at bx20
          clear ex20
          refine zw_push zr_66_74 ?_
          refine zw_7 zr_66_75 rfl ?_
          refine zw_46r (s := 1) zr_66_76 rfl rfl rfl rfl ?_
          refine zw_46r (s := 6) zr_66_79 rfl rfl rfl rfl ?_
          refine zw_3 zr_66_82 rfl ?_
          refine zw_48 (c := 6) (len := 60) zr_66_83 rfl rfl (by omega) (by omega) ?_
          intro x21 ex21
          have bx21 := ib_6 hIm18 (k := (i2).toNat) (by omega)
          rw [← ex21] at bx21
          clear ex21
          refine zw_24h zr_66_84 ?_
          intro x22 hx22a hx22b
          refine zw_22h zr_66_85 ?_
          intro x23 hx23a hx23b
          refine zw_49 (c := 61) (len := 10) zr_66_86 rfl rfl (by omega) (by omega) ?_
          intro m24 em24
          have hIm24 : zInv m24 := by rw [em24]; exact hIm18.any (by omega) rfl (by decide) (by decide)
          have hFm24 : zFr W_66 m0 m24 := by rw [em24]; exact hFm18.any rfl
          have km24_1_1 : m24 1 1 = f6 := by rw [em24, zUp_ne (by omega)]; exact km18_1_1
          clear em24
          refine zw_15 (c := 1) (L' := [(2, 60), (1, a0), (9, 0), (0, (i2 + 1))]) zr_66_87 rfl (by decide) (by omega) rfl ?_
          refine zw_42 zr_66_90 ?_
          exact zw_less (L := [(2, 60), (1, a0), (9, 0), (0, (i2 + 1))]) ⟨Or.inr rfl, Or.inr rfl, Or.inl rfl, Or.inr rfl, trivial⟩ (ihlp10_4 ((i2 + 1)) m24 hIm24 hFm24   (by omega) (by omega)  (by omega))
  exact lp10_4 _ (0) m1 hIm1 hFm1   (by omega) (by omega)  (Nat.lt_succ_self _)

abbrev W_4_62 : List (Nat × Nat) := [(62, 1000)]
set_option maxHeartbeats 8000000 in
theorem th_4_62 {E : zE} {d : Nat} {m0 : zM} {a0 : Int} (hd : 1 ≤ d) (hI0 : zInv m0) (ha0 : (-1) ≤ a0 ∧ a0 ≤ (-1)) : zC E d 4 [(2, 62), (0, a0)] m0 (fun v m' => v = (9, 0) ∧ zInv m' ∧ zFr W_4_62 m0 m') := by
  have hF0 : zFr W_4_62 m0 m0 := zFr.rfl
  generalize hQ : (fun (v : zV) (m' : zM) => v = (9, 0) ∧ zInv m' ∧ zFr W_4_62 m0 m') = Q
  show zW E d 4 0 [(2, 62), (0, a0), (9, 0), (9, 0)] [] m0 Q
  refine zw_push zr_4_0 ?_
  refine zw_9 (L' := [(2, 62), (0, a0), (0, 0), (9, 0)]) zr_4_1 (Nat.le_of_ble_eq_true rfl) rfl ?_
  refine zw_7 zr_4_2 rfl ?_
  refine zw_101 (c := 62) (len := 10) zr_4_3 rfl rfl (by decide) ?_
  refine zw_9 (L' := [(2, 62), (0, a0), (0, 0), (0, 10)]) zr_4_4 (Nat.le_of_ble_eq_true rfl) rfl ?_
  have lp5_3 : ∀ (nlp5_3 : Nat) (i1 : Int) (m2 : zM), zInv m2 → zFr W_4_62 m0 m2 → 0 ≤ i1 → i1 ≤ 10 → (10 - i1).toNat < nlp5_3 → zW E (d) 4 5 [(2, 62), (0, a0), (0, i1), (0, 10)] [] m2 Q := by
    intro nlp5_3
    induction nlp5_3 with
    | zero =>
      intros
      exact absurd (by assumption : _ < 0) (Nat.not_lt_zero _)
    | succ nlp5_3 ihlp5_3 =>
      intro i1 m2 hIm2 hFm2 li1 ui1 hmlp5_3
      refine zw_3 zr_4_5 rfl ?_
      refine zw_3 zr_4_6 rfl ?_
      refine zw_41_3 zr_4_7 ?_ ?_
      · intro h5
        refine zw_R zr_4_20 (by decide) zm_4 (v := (9, 0)) rfl ?_
        rw [← hQ]; exact ⟨rfl, hIm2, hFm2⟩
      · intro h6
        refine zw_7 zr_4_10 rfl ?_
        refine zw_3 zr_4_11 rfl ?_
        refine zw_3 zr_4_12 rfl ?_
        refine zw_49 (c := 62) (len := 10) zr_4_13 rfl rfl (by omega) (by omega) ?_
        intro m7 em7
        have hIm7 : zInv m7 := by rw [em7]; exact hIm2.any (by omega) rfl (by decide) (by decide)
        have hFm7 : zFr W_4_62 m0 m7 := by rw [em7]; exact hFm2.any rfl
        clear em7
        refine zw_15 (c := 1) (L' := [(2, 62), (0, a0), (0, (i1 + 1)), (0, 10)]) zr_4_14 rfl (by decide) (by omega) rfl ?_
        refine zw_42 zr_4_17 ?_
        exact zw_less (L := [(2, 62), (0, a0), (0, (i1 + 1)), (0, 10)]) ⟨Or.inr rfl, Or.inr rfl, Or.inr rfl, Or.inr rfl, trivial⟩ (ihlp5_3 ((i1 + 1)) m7 hIm7 hFm7   (by omega) (by omega)  (by omega))
  exact lp5_3 _ (0) m0 hI0 hF0   (by omega) (by omega)  (Nat.lt_succ_self _)

abbrev W_67 : List (Nat × Nat) := [(62, 1000)]
set_option maxHeartbeats 8000000 in
theorem th_67 {E : zE} {d : Nat} {m0 : zM} {a0 : Int} (hd : 2 ≤ d) (hI0 : zInv m0) (ha0 : 0 ≤ a0 ∧ a0 ≤ 9) : zC E d 67 [(2, 60), (0, a0)] m0 (fun v m' => v = (9, 0) ∧ zInv m' ∧ zFr W_67 m0 m') := by
  have hF0 : zFr W_67 m0 m0 := zFr.rfl
  generalize hQ : (fun (v : zV) (m' : zM) => v = (9, 0) ∧ zInv m' ∧ zFr W_67 m0 m') = Q
  show zW E d 67 0 [(2, 60), (0, a0), (9, 0), (9, 0), (9, 0), (9, 0), (9, 0)] [] m0 Q
  refine zw_7 zr_67_0 rfl ?_
  refine zw_46r (s := 62) zr_67_1 rfl rfl rfl rfl ?_
  refine zw_push zr_67_4 ?_
  refine zw_C zr_67_5 (Or.inr rfl) zm_4 rfl rfl ⟨Nat.le_of_ble_eq_true rfl, Nat.le_of_ble_eq_true rfl, Nat.le_of_ble_eq_true rfl, rfl, by decide⟩ (by omega) (th_4_62 (d := d - 1) (by omega) hI0 (a0 := (-1))      (by omega) ) ?_
  rintro _ m1 ⟨rfl, hIm1, gm1⟩
  have hFm1 : zFr W_67 m0 m1 := hF0.trans gm1 rfl
  show zW E (d) 67 8 [(2, 60), (0, a0), (9, 0), (9, 0), (9, 0), (9, 0), (9, 0)] [] m1 Q
  refine zw_push zr_67_8 ?_
  refine zw_9 (L' := [(2, 60), (0, a0), (0, 0), (9, 0), (9, 0), (9, 0), (9, 0)]) zr_67_9 (Nat.le_of_ble_eq_true rfl) rfl ?_
  refine zw_push zr_67_10 ?_
  refine zw_3 zr_67_11 rfl ?_
  refine zw_24h zr_67_12 ?_
  intro x2 hx2a hx2b
  refine zw_9 (L' := [(2, 60), (0, a0), (0, 0), (0, x2), (9, 0), (9, 0), (9, 0)]) zr_67_13 (Nat.le_of_ble_eq_true rfl) rfl ?_
  refine zw_push zr_67_14 ?_
  refine zw_10 (L' := [(2, 60), (0, a0), (0, 0), (0, x2), (0, 0), (9, 0), (9, 0)]) zr_67_15 (Nat.le_of_ble_eq_true rfl) rfl ?_
  have lp17_7 : ∀ (nlp17_7 : Nat) (i3 i4 i5 : Int) (m6 : zM), zInv m6 → zFr W_67 m0 m6 → (-2147483648) ≤ i3 → i3 ≤ 2147483647 → (-2147483648) ≤ i4 → i4 ≤ 2147483647 → 0 ≤ i5 → i5 ≤ 10 → (10 - i5).toNat < nlp17_7 → zW E (d) 67 17 [(2, 60), (0, a0), (0, i3), (0, i4), (0, i5), (9, 0), (9, 0)] [] m6 Q := by
    intro nlp17_7
    induction nlp17_7 with
    | zero =>
      intros
      exact absurd (by assumption : _ < 0) (Nat.not_lt_zero _)
    | succ nlp17_7 ihlp17_7 =>
      intro i3 i4 i5 m6 hIm6 hFm6 li3 ui3 li4 ui4 li5 ui5 hmlp17_7
      refine zw_4 zr_67_17 rfl ?_
      refine zw_push zr_67_19 ?_
      refine zw_41_3 zr_67_21 ?_ ?_
      · intro h9
        refine zw_R zr_67_99 (by decide) zm_67 (v := (9, 0)) rfl ?_
        rw [← hQ]; exact ⟨rfl, hIm6, hFm6⟩
      · intro h10
        refine zw_3 zr_67_24 rfl ?_
        refine zw_40_1 zr_67_25 ?_ ?_
        · intro h11
          refine zw_R zr_67_99 (by decide) zm_67 (v := (9, 0)) rfl ?_
          rw [← hQ]; exact ⟨rfl, hIm6, hFm6⟩
        · intro h12
          refine zw_3 zr_67_28 rfl ?_
          refine zw_3 zr_67_29 rfl ?_
          refine zw_22h zr_67_30 ?_
          intro x13 hx13a hx13b
          refine zw_9 (L' := [(2, 60), (0, a0), (0, x13), (0, i4), (0, i5), (9, 0), (9, 0)]) zr_67_31 (Nat.le_of_ble_eq_true rfl) rfl ?_
          refine zw_push zr_67_32 ?_
          refine zw_10 (L' := [(2, 60), (0, a0), (0, x13), (0, i4), (0, i5), (0, 0), (9, 0)]) zr_67_33 (Nat.le_of_ble_eq_true rfl) rfl ?_
          refine zw_push zr_67_35 ?_
          refine zw_10 (L' := [(2, 60), (0, a0), (0, x13), (0, i4), (0, i5), (0, 0), (0, 0)]) zr_67_36 (Nat.le_of_ble_eq_true rfl) rfl ?_
          have lp38_17 : ∀ (nlp38_17 : Nat) (i14 i15 : Int) (m16 : zM), zInv m16 → zFr W_67 m0 m16 → (-2147483648) ≤ i14 → i14 ≤ 2147483647 → 0 ≤ i15 → i15 ≤ 10 → (10 - i15).toNat < nlp38_17 → zW E (d) 67 38 [(2, 60), (0, a0), (0, x13), (0, i4), (0, i5), (0, i14), (0, i15)] [] m16 Q := by
            intro nlp38_17
            induction nlp38_17 with
            | zero =>
              intros
              exact absurd (by assumption : _ < 0) (Nat.not_lt_zero _)
            | succ nlp38_17 ihlp38_17 =>
              intro i14 i15 m16 hIm16 hFm16 li14 ui14 li15 ui15 hmlp38_17
              refine zw_4 zr_67_38 rfl ?_
              refine zw_7 zr_67_40 rfl ?_
              refine zw_46r (s := 1) zr_67_41 rfl rfl rfl rfl ?_
              obtain ⟨f19, ef19⟩ : ∃ v, m16 1 0 = v := ⟨_, rfl⟩
              have bf19 := ib_1_0 hIm16
              rw [ef19] at bf19
              refine zw_46i zr_67_44 ef19 rfl rfl rfl ?_
              refine zw_41_3 zr_67_47 ?_ ?_
              · intro h20
                refine zw_4 zr_67_86 rfl ?_
                refine zw_3 zr_67_88 rfl ?_
                refine zw_push zr_67_89 ?_
                refine zw_23h zr_67_90 ?_
                intro x21 hx21a hx21b
                refine zw_21h zr_67_91 ?_
                intro x22 hx22a hx22b
                refine zw_9 (L' := [(2, 60), (0, a0), (0, x13), (0, x22), (0, i5), (0, i14), (0, i15)]) zr_67_92 (Nat.le_of_ble_eq_true rfl) rfl ?_
                refine zw_15 (c := 1) (L' := [(2, 60), (0, a0), (0, x13), (0, x22), (0, (i5 + 1)), (0, i14), (0, i15)]) zr_67_93 rfl (by decide) (by omega) rfl ?_
                refine zw_42 zr_67_96 ?_
                exact zw_less (L := [(2, 60), (0, a0), (0, x13), (0, x22), (0, (i5 + 1)), (9, 0), (9, 0)]) ⟨Or.inr rfl, Or.inr rfl, Or.inr rfl, Or.inr rfl, Or.inr rfl, Or.inl rfl, Or.inl rfl, trivial⟩ (ihlp17_7 (x13) (x22) ((i5 + 1)) m16 hIm16 hFm16   (by omega) (by omega) (by omega) (by omega) (by omega) (by omega)  (by omega))
              · intro h23
                refine zw_3 zr_67_50 rfl ?_
                refine zw_4 zr_67_51 rfl ?_
                refine zw_25h zr_67_53 ?_
                intro x24 hx24a hx24b
                refine zw_push zr_67_54 ?_
                refine zw_21m zr_67_55 (by omega) (by omega) ?_
                intro x25 hx25a hx25b
                refine zw_40_1 zr_67_56 ?_ ?_
                · intro h26
                  refine zw_15 (c := 1) (L' := [(2, 60), (0, a0), (0, x13), (0, i4), (0, i5), (0, i14), (0, (i15 + 1))]) zr_67_80 rfl (by decide) (by omega) rfl ?_
                  refine zw_42 zr_67_83 ?_
                  exact zw_less (L := [(2, 60), (0, a0), (0, x13), (0, i4), (0, i5), (0, i14), (0, (i15 + 1))]) ⟨Or.inr rfl, Or.inr rfl, Or.inr rfl, Or.inr rfl, Or.inr rfl, Or.inr rfl, Or.inr rfl, trivial⟩ (ihlp38_17 (i14) ((i15 + 1)) m16 hIm16 hFm16   (by omega) (by omega) (by omega) (by omega)  (by omega))
                · intro h27
                  refine zw_7 zr_67_59 rfl ?_
                  refine zw_46r (s := 62) zr_67_60 rfl rfl rfl rfl ?_
                  refine zw_4 zr_67_63 rfl ?_
                  refine zw_4 zr_67_65 rfl ?_
                  refine zw_49 (c := 62) (len := 10) zr_67_67 rfl rfl (by omega) (by omega) ?_
                  intro m28 em28
                  have hIm28 : zInv m28 := by rw [em28]; exact hIm16.any (by omega) rfl (by decide) (by decide)
                  have hFm28 : zFr W_67 m0 m28 := by rw [em28]; exact hFm16.any rfl
                  have km28_1_0 : m28 1 0 = f19 := by rw [em28, zUp_ne (by omega)]; exact ef19
                  clear em28
                  refine zw_4 zr_67_68 rfl ?_
                  refine zw_7 zr_67_70 rfl ?_
                  refine zw_46r (s := 61) zr_67_71 rfl rfl rfl rfl ?_
                  refine zw_4 zr_67_74 rfl ?_
                  refine zw_48 (c := 61) (len := 10) zr_67_76 rfl rfl (by omega) (by omega) ?_
                  intro x29 ex29
                  have bx29 := hIm28.ra (c := 61) (len := 10) (k := (i15).toNat) rfl (by omega)
                  rw [← ex29] at bx29
                  clear ex29
                  refine zw_22h zr_67_77 ?_
                  intro x30 hx30a hx30b
                  refine zw_10 (L' := [(2, 60), (0, a0), (0, x13), (0, i4), (0, i5), (0, x30), (0, i15)]) zr_67_78 (Nat.le_of_ble_eq_true rfl) rfl ?_
                  refine zw_15 (c := 1) (L' := [(2, 60), (0, a0), (0, x13), (0, i4), (0, i5), (0, x30), (0, (i15 + 1))]) zr_67_80 rfl (by decide) (by omega) rfl ?_
                  refine zw_42 zr_67_83 ?_
                  exact zw_less (L := [(2, 60), (0, a0), (0, x13), (0, i4), (0, i5), (0, x30), (0, (i15 + 1))]) ⟨Or.inr rfl, Or.inr rfl, Or.inr rfl, Or.inr rfl, Or.inr rfl, Or.inr rfl, Or.inr rfl, trivial⟩ (ihlp38_17 (x30) ((i15 + 1)) m28 hIm28 hFm28   (by omega) (by omega) (by omega) (by omega)  (by omega))
          exact lp38_17 _ (0) (0) m6 hIm6 hFm6   (by omega) (by omega) (by omega) (by omega)  (Nat.lt_succ_self _)
  exact lp17_7 _ (0) (x2) (0) m1 hIm1 hFm1   (by omega) (by omega) (by omega) (by omega) (by omega) (by omega)  (Nat.lt_succ_self _)

abbrev W_68 : List (Nat × Nat) := [(61, 1000), (62, 1000)]
set_option maxHeartbeats 8000000 in
theorem th_68 {E : zE} {d : Nat} {m0 : zM} {a0 : Int} {a1 : Int} (hd : 3 ≤ d) (hI0 : zInv m0) (ha0 : 0 ≤ a0 ∧ a0 ≤ 9) (ha1 : 0 ≤ a1 ∧ a1 ≤ 9) : zC E d 68 [(2, 60), (0, a0), (0, a1)] m0 (fun v m' => ∃ r : Int, v = (0, r) ∧ 0 ≤ r ∧ r ≤ 1 ∧ zInv m' ∧ zFr W_68 m0 m') := by
  have hF0 : zFr W_68 m0 m0 := zFr.rfl
  generalize hQ : (fun (v : zV) (m' : zM) => ∃ r : Int, v = (0, r) ∧ 0 ≤ r ∧ r ≤ 1 ∧ zInv m' ∧ zFr W_68 m0 m') = Q
  show zW E d 68 0 [(2, 60), (0, a0), (0, a1)] [] m0 Q
  refine zw_7 zr_68_0 rfl ?_
  refine zw_7 zr_68_1 rfl ?_
  refine zw_46r (s := 1) zr_68_2 rfl rfl rfl rfl ?_
  refine zw_C zr_68_5 (Or.inl rfl) zm_53 rfl rfl ⟨Nat.le_of_ble_eq_true rfl, Nat.le_of_ble_eq_true rfl, Nat.le_of_ble_eq_true rfl, rfl, by decide⟩ (by omega) (th_53 (d := d - 1) (by omega) hI0        ) ?_
  rintro _ _ ⟨r1, rfl, hr1a, hr1b, rfl⟩
  show zW E (d) 68 8 [(2, 60), (0, a0), (0, a1)] [(1, r1), (2, 60)] m0 Q
  refine zw_C zr_68_8 (Or.inl rfl) zm_66 rfl rfl ⟨Nat.le_of_ble_eq_true rfl, Nat.le_of_ble_eq_true rfl, Nat.le_of_ble_eq_true rfl, rfl, by decide⟩ (by omega) (th_66 (d := d - 1) (by omega) hI0 (a0 := r1)      (by omega) ) ?_
  rintro _ m2 ⟨rfl, hIm2, gm2⟩
  have hFm2 : zFr W_68 m0 m2 := hF0.trans gm2 rfl
  show zW E (d) 68 11 [(2, 60), (0, a0), (0, a1)] [] m2 Q
  refine zw_7 zr_68_11 rfl ?_
  refine zw_3 zr_68_12 rfl ?_
  refine zw_C zr_68_13 (Or.inl rfl) zm_67 rfl rfl ⟨Nat.le_of_ble_eq_true rfl, Nat.le_of_ble_eq_true rfl, Nat.le_of_ble_eq_true rfl, rfl, by decide⟩ (by omega) (th_67 (d := d - 1) (by omega) hIm2 (a0 := a1)      (by omega) ) ?_
  rintro _ m3 ⟨rfl, hIm3, gm3⟩
  have hFm3 : zFr W_68 m0 m3 := hFm2.trans gm3 rfl
  show zW E (d) 68 16 [(2, 60), (0, a0), (0, a1)] [] m3 Q
  refine zw_7 zr_68_16 rfl ?_
  refine zw_46r (s := 62) zr_68_17 rfl rfl rfl rfl ?_
  refine zw_3 zr_68_20 rfl ?_
  refine zw_48 (c := 62) (len := 10) zr_68_21 rfl rfl (by omega) (by omega) ?_
  intro x4 ex4
  have bx4 := hIm3.ra (c := 62) (len := 10) (k := (a0).toNat) rfl (by omega)
  rw [← ex4] at bx4
  clear ex4
  refine zw_push zr_68_22 ?_
  refine zw_41_1 zr_68_23 ?_ ?_
  · intro h5
    refine zw_push zr_68_30 ?_
    refine zw_R zr_68_31 (by decide) zm_68 (v := (0, 0)) (zRetB (by omega)) ?_
    rw [← hQ]; exact ⟨_, rfl, by omega, by omega, hIm3, hFm3⟩
  · intro h6
    refine zw_push zr_68_26 ?_
    refine zw_42 zr_68_27 ?_
    refine zw_R zr_68_31 (by decide) zm_68 (v := (0, 1)) (zRetB (by omega)) ?_
    rw [← hQ]; exact ⟨_, rfl, by omega, by omega, hIm3, hFm3⟩

abbrev W_85 : List (Nat × Nat) := [(56, 1000), (57, 1000), (58, 1000), (59, 1000)]
set_option maxHeartbeats 8000000 in
theorem th_85 {E : zE} {d : Nat} {m0 : zM} {a0 : Int} {a1 : Int} (hd : 3 ≤ d) (hI0 : zInv m0) (ha0 : 0 ≤ a0 ∧ a0 ≤ 9) (ha1 : 0 ≤ a1 ∧ a1 ≤ 9) : zC E d 85 [(2, 55), (0, a0), (0, a1)] m0 (fun v m' => ∃ r : Int, v = (0, r) ∧ (-2147483648) ≤ r ∧ r ≤ 2147483647 ∧ zInv m' ∧ zFr W_85 m0 m') := by
  have hF0 : zFr W_85 m0 m0 := zFr.rfl
  generalize hQ : (fun (v : zV) (m' : zM) => ∃ r : Int, v = (0, r) ∧ (-2147483648) ≤ r ∧ r ≤ 2147483647 ∧ zInv m' ∧ zFr W_85 m0 m') = Q
  show zW E d 85 0 [(2, 55), (0, a0), (0, a1), (9, 0), (9, 0), (9, 0), (9, 0)] [] m0 Q
  refine zw_7 zr_85_0 rfl ?_
  refine zw_C zr_85_1 (Or.inl rfl) zm_78 rfl rfl ⟨Nat.le_of_ble_eq_true rfl, Nat.le_of_ble_eq_true rfl, Nat.le_of_ble_eq_true rfl, rfl, by decide⟩ (by omega) (th_78 (d := d - 1) (by omega) hI0        ) ?_
  rintro _ m1 ⟨rfl, hIm1, gm1⟩
  have hFm1 : zFr W_85 m0 m1 := hF0.trans gm1 rfl
  show zW E (d) 85 4 [(2, 55), (0, a0), (0, a1), (9, 0), (9, 0), (9, 0), (9, 0)] [] m1 Q
  refine zw_7 zr_85_4 rfl ?_
  refine zw_46r (s := 58) zr_85_5 rfl rfl rfl rfl ?_
  refine zw_push zr_85_8 ?_
  refine zw_C zr_85_10 (Or.inr rfl) zm_4 rfl rfl ⟨Nat.le_of_ble_eq_true rfl, Nat.le_of_ble_eq_true rfl, Nat.le_of_ble_eq_true rfl, rfl, by decide⟩ (by omega) (th_4_58 (d := d - 1) (by omega) hIm1 (a0 := 1000000)      (by omega) ) ?_
  rintro _ m2 ⟨rfl, hIm2, gm2⟩
  have hFm2 : zFr W_85 m0 m2 := hFm1.trans gm2 rfl
  show zW E (d) 85 13 [(2, 55), (0, a0), (0, a1), (9, 0), (9, 0), (9, 0), (9, 0)] [] m2 Q
  refine zw_7 zr_85_13 rfl ?_
  refine zw_46r (s := 58) zr_85_14 rfl rfl rfl rfl ?_
  refine zw_3 zr_85_17 rfl ?_
  refine zw_push zr_85_18 ?_
  refine zw_49 (c := 58) (len := 10) zr_85_19 rfl rfl (by omega) (by omega) ?_
  intro m3 em3
  have hIm3 : zInv m3 := by rw [em3]; exact hIm2.any (by omega) rfl (by decide) (by decide)
  have hFm3 : zFr W_85 m0 m3 := by rw [em3]; exact hFm2.any rfl
  clear em3
  refine zw_7 zr_85_20 rfl ?_
  refine zw_46r (s := 1) zr_85_21 rfl rfl rfl rfl ?_
  refine zw_C zr_85_24 (Or.inl rfl) zm_53 rfl rfl ⟨Nat.le_of_ble_eq_true rfl, Nat.le_of_ble_eq_true rfl, Nat.le_of_ble_eq_true rfl, rfl, by decide⟩ (by omega) (th_53 (d := d - 1) (by omega) hIm3        ) ?_
  rintro _ _ ⟨r4, rfl, hr4a, hr4b, rfl⟩
  show zW E (d) 85 27 [(2, 55), (0, a0), (0, a1), (9, 0), (9, 0), (9, 0), (9, 0)] [(1, r4)] m3 Q
  refine zw_13 (L' := [(2, 55), (0, a0), (0, a1), (1, r4), (9, 0), (9, 0), (9, 0)]) zr_85_27 (Nat.le_of_ble_eq_true rfl) rfl ?_
  refine zw_push zr_85_28 ?_
  refine zw_10 (L' := [(2, 55), (0, a0), (0, a1), (1, r4), (9, 0), (0, 1), (9, 0)]) zr_85_29 (Nat.le_of_ble_eq_true rfl) rfl ?_
  refine zw_push zr_85_31 ?_
  refine zw_10 (L' := [(2, 55), (0, a0), (0, a1), (1, r4), (9, 0), (0, 1), (0, 0)]) zr_85_32 (Nat.le_of_ble_eq_true rfl) rfl ?_
  have lp34_8 : ∀ (nlp34_8 : Nat) (i5 i6 : Int) (m7 : zM), zInv m7 → zFr W_85 m0 m7 → 0 ≤ i5 → i5 ≤ 1 → 0 ≤ i6 → i6 ≤ 10 → (10 - i6).toNat < nlp34_8 → zW E (d) 85 34 [(2, 55), (0, a0), (0, a1), (1, r4), (9, 0), (0, i5), (0, i6)] [] m7 Q := by
    intro nlp34_8
    induction nlp34_8 with
    | zero =>
      intros
      exact absurd (by assumption : _ < 0) (Nat.not_lt_zero _)
    | succ nlp34_8 ihlp34_8 =>
      intro i5 i6 m7 hIm7 hFm7 li5 ui5 li6 ui6 hmlp34_8
      refine zw_4 zr_85_34 rfl ?_
      refine zw_push zr_85_36 ?_
      refine zw_41_3 zr_85_38 ?_ ?_
      · intro h10
        refine zw_7 zr_85_59 rfl ?_
        refine zw_46r (s := 58) zr_85_60 rfl rfl rfl rfl ?_
        refine zw_3 zr_85_63 rfl ?_
        refine zw_48 (c := 58) (len := 10) zr_85_64 rfl rfl (by omega) (by omega) ?_
        intro x11 ex11
        have bx11 := hIm7.ra (c := 58) (len := 10) (k := (a0).toNat) rfl (by omega)
        rw [← ex11] at bx11
        clear ex11
        refine zw_R zr_85_65 (by decide) zm_85 (v := (0, x11)) rfl ?_
        rw [← hQ]; exact ⟨_, rfl, by omega, by omega, hIm7, hFm7⟩
      · intro h12
        refine zw_4 zr_85_41 rfl ?_
        refine zw_40_1 zr_85_43 ?_ ?_
        · intro h13
          refine zw_7 zr_85_59 rfl ?_
          refine zw_46r (s := 58) zr_85_60 rfl rfl rfl rfl ?_
          refine zw_3 zr_85_63 rfl ?_
          refine zw_48 (c := 58) (len := 10) zr_85_64 rfl rfl (by omega) (by omega) ?_
          intro x14 ex14
          have bx14 := hIm7.ra (c := 58) (len := 10) (k := (a0).toNat) rfl (by omega)
          rw [← ex14] at bx14
          clear ex14
          refine zw_R zr_85_65 (by decide) zm_85 (v := (0, x14)) rfl ?_
          rw [← hQ]; exact ⟨_, rfl, by omega, by omega, hIm7, hFm7⟩
        · intro h15
          refine zw_7 zr_85_46 rfl ?_
          refine zw_5 zr_85_47 rfl ?_
          refine zw_C zr_85_48 (Or.inl rfl) zm_80 rfl rfl ⟨Nat.le_of_ble_eq_true rfl, Nat.le_of_ble_eq_true rfl, Nat.le_of_ble_eq_true rfl, rfl, by decide⟩ (by omega) (th_80 (d := d - 1) (by omega) hIm7 (a0 := r4)      (by omega) ) ?_
          rintro _ m16 ⟨r17, rfl, hr17a, hr17b, hIm16, gm16⟩
          have hFm16 : zFr W_85 m0 m16 := hFm7.trans gm16 rfl
          show zW E (d) 85 51 [(2, 55), (0, a0), (0, a1), (1, r4), (9, 0), (0, i5), (0, i6)] [(0, r17)] m16 Q
          refine zw_10 (L' := [(2, 55), (0, a0), (0, a1), (1, r4), (9, 0), (0, r17), (0, i6)]) zr_85_51 (Nat.le_of_ble_eq_true rfl) rfl ?_
          refine zw_15 (c := 1) (L' := [(2, 55), (0, a0), (0, a1), (1, r4), (9, 0), (0, r17), (0, (i6 + 1))]) zr_85_53 rfl (by decide) (by omega) rfl ?_
          refine zw_42 zr_85_56 ?_
          exact zw_less (L := [(2, 55), (0, a0), (0, a1), (1, r4), (9, 0), (0, r17), (0, (i6 + 1))]) ⟨Or.inr rfl, Or.inr rfl, Or.inr rfl, Or.inr rfl, Or.inl rfl, Or.inr rfl, Or.inr rfl, trivial⟩ (ihlp34_8 (r17) ((i6 + 1)) m16 hIm16 hFm16   (by omega) (by omega) (by omega) (by omega)  (by omega))
  exact lp34_8 _ (1) (0) m3 hIm3 hFm3   (by omega) (by omega) (by omega) (by omega)  (Nat.lt_succ_self _)

abbrev W_118 : List (Nat × Nat) := [(56, 1000), (57, 1000), (58, 1000), (59, 1000), (61, 1000), (62, 1000)]
set_option maxHeartbeats 8000000 in
theorem th_118 {E : zE} {d : Nat} {m0 : zM} {a0 : Int} {a1 : Int} {a2 : Int} (hd : 6 ≤ d) (hI0 : zInv m0) (ha0 : (-2147483648) ≤ a0 ∧ a0 ≤ 2147483647) (ha1 : (-2147483648) ≤ a1 ∧ a1 ≤ 2147483647) (ha2 : (-2147483648) ≤ a2 ∧ a2 ≤ 2147483647) : zC E d 118 [(2, 0), (0, a0), (0, a1), (0, a2)] m0 (fun v m' => ∃ r : Int, v = (0, r) ∧ (-2147483648) ≤ r ∧ r ≤ 2147483647 ∧ zInv m' ∧ zFr W_118 m0 m') := by
  have hF0 : zFr W_118 m0 m0 := zFr.rfl
  generalize hQ : (fun (v : zV) (m' : zM) => ∃ r : Int, v = (0, r) ∧ (-2147483648) ≤ r ∧ r ≤ 2147483647 ∧ zInv m' ∧ zFr W_118 m0 m') = Q
  show zW E d 118 0 [(2, 0), (0, a0), (0, a1), (0, a2)] [] m0 Q
  refine zw_7 zr_118_0 rfl ?_
  refine zw_46r (s := 1) zr_118_1 rfl rfl rfl rfl ?_
  refine zw_3 zr_118_4 rfl ?_
  refine zw_3 zr_118_5 rfl ?_
  refine zw_C zr_118_6 (Or.inl rfl) zm_50 rfl rfl ⟨Nat.le_of_ble_eq_true rfl, Nat.le_of_ble_eq_true rfl, Nat.le_of_ble_eq_true rfl, rfl, by decide⟩ (by omega) (P := (fun v m' => zW E (d) 118 9 [(2, 0), (0, a0), (0, a1), (0, a2)] (if v.1 = 9 then [] else v :: []) m' Q)) ?_ (fun _ _ h => h)
  generalize hQ1 : (fun v m' => zW E (d) 118 9 [(2, 0), (0, a0), (0, a1), (0, a2)] (if v.1 = 9 then [] else v :: []) m' Q) = Q1
  show zW E (d - 1) 50 0 [(2, 1), (0, a0), (0, a1)] [] m0 Q1
  refine zw_7 zr_50_0 rfl ?_
  refine zw_3 zr_50_1 rfl ?_
  refine zw_C zr_50_2 (Or.inl rfl) zm_49 rfl rfl ⟨Nat.le_of_ble_eq_true rfl, Nat.le_of_ble_eq_true rfl, Nat.le_of_ble_eq_true rfl, rfl, by decide⟩ (by omega) (P := (fun v m' => zW E (d - 1) 50 5 [(2, 1), (0, a0), (0, a1)] (if v.1 = 9 then [] else v :: []) m' Q1)) ?_ (fun _ _ h => h)
  generalize hQ2 : (fun v m' => zW E (d - 1) 50 5 [(2, 1), (0, a0), (0, a1)] (if v.1 = 9 then [] else v :: []) m' Q1) = Q2
  show zW E (d - 1 - 1) 49 0 [(2, 1), (0, a0)] [] m0 Q2
  refine zw_3 zr_49_0 rfl ?_
  refine zw_40_0 zr_49_1 ?_ ?_
  · intro h1
    refine zw_push zr_49_16 ?_
    refine zw_R zr_49_17 (by decide) zm_49 (v := (0, 0)) (zRetB (by omega)) ?_
    rw [← hQ2]
    show zW E (d - 1) 50 5 [(2, 1), (0, a0), (0, a1)] [(0, 0)] m0 Q1
    refine zw_40_1 zr_50_5 ?_ ?_
    · intro h2
      refine zw_push zr_50_25 ?_
      refine zw_R zr_50_26 (by decide) zm_50 (v := (0, 0)) (zRetB (by omega)) ?_
      rw [← hQ1]
      show zW E (d) 118 9 [(2, 0), (0, a0), (0, a1), (0, a2)] [(0, 0)] m0 Q
      refine zw_40_1 zr_118_9 ?_ ?_
      · intro h3
        refine zw_push zr_118_21 ?_
        refine zw_R zr_118_23 (by decide) zm_118 (v := (0, (-100000))) rfl ?_
        rw [← hQ]; exact ⟨_, rfl, by omega, by omega, hI0, hF0⟩
      · intro h4; omega
    · intro h5; omega
  · intro h6
    refine zw_3 zr_49_4 rfl ?_
    refine zw_7 zr_49_5 rfl ?_
    obtain ⟨f7, ef7⟩ : ∃ v, m0 1 0 = v := ⟨_, rfl⟩
    have bf7 := ib_1_0 hI0
    rw [ef7] at bf7
    refine zw_46i zr_49_6 ef7 rfl rfl rfl ?_
    refine zw_41_3 zr_49_9 ?_ ?_
    · intro h8
      refine zw_push zr_49_16 ?_
      refine zw_R zr_49_17 (by decide) zm_49 (v := (0, 0)) (zRetB (by omega)) ?_
      rw [← hQ2]
      show zW E (d - 1) 50 5 [(2, 1), (0, a0), (0, a1)] [(0, 0)] m0 Q1
      refine zw_40_1 zr_50_5 ?_ ?_
      · intro h9
        refine zw_push zr_50_25 ?_
        refine zw_R zr_50_26 (by decide) zm_50 (v := (0, 0)) (zRetB (by omega)) ?_
        rw [← hQ1]
        show zW E (d) 118 9 [(2, 0), (0, a0), (0, a1), (0, a2)] [(0, 0)] m0 Q
        refine zw_40_1 zr_118_9 ?_ ?_
        · intro h10
          refine zw_push zr_118_21 ?_
          refine zw_R zr_118_23 (by decide) zm_118 (v := (0, (-100000))) rfl ?_
          rw [← hQ]; exact ⟨_, rfl, by omega, by omega, hI0, hF0⟩
        · intro h11; omega
      · intro h12; omega
    · intro h13
      refine zw_push zr_49_12 ?_
      refine zw_42 zr_49_13 ?_
      refine zw_R zr_49_17 (by decide) zm_49 (v := (0, 1)) (zRetB (by omega)) ?_
      rw [← hQ2]
      show zW E (d - 1) 50 5 [(2, 1), (0, a0), (0, a1)] [(0, 1)] m0 Q1
      refine zw_40_1 zr_50_5 ?_ ?_
      · intro h14; omega
      · intro h15
        refine zw_7 zr_50_8 rfl ?_
        refine zw_3 zr_50_9 rfl ?_
        refine zw_C zr_50_10 (Or.inl rfl) zm_49 rfl rfl ⟨Nat.le_of_ble_eq_true rfl, Nat.le_of_ble_eq_true rfl, Nat.le_of_ble_eq_true rfl, rfl, by decide⟩ (by omega) (P := (fun v m' => zW E (d - 1) 50 13 [(2, 1), (0, a0), (0, a1)] (if v.1 = 9 then [] else v :: []) m' Q1)) ?_ (fun _ _ h => h)
        generalize hQ2 : (fun v m' => zW E (d - 1) 50 13 [(2, 1), (0, a0), (0, a1)] (if v.1 = 9 then [] else v :: []) m' Q1) = Q2
        show zW E (d - 1 - 1) 49 0 [(2, 1), (0, a1)] [] m0 Q2
        refine zw_3 zr_49_0 rfl ?_
        refine zw_40_0 zr_49_1 ?_ ?_
        · intro h16
          refine zw_push zr_49_16 ?_
          refine zw_R zr_49_17 (by decide) zm_49 (v := (0, 0)) (zRetB (by omega)) ?_
          rw [← hQ2]
          show zW E (d - 1) 50 13 [(2, 1), (0, a0), (0, a1)] [(0, 0)] m0 Q1
          refine zw_40_1 zr_50_13 ?_ ?_
          · intro h17
            refine zw_push zr_50_25 ?_
            refine zw_R zr_50_26 (by decide) zm_50 (v := (0, 0)) (zRetB (by omega)) ?_
            rw [← hQ1]
            show zW E (d) 118 9 [(2, 0), (0, a0), (0, a1), (0, a2)] [(0, 0)] m0 Q
            refine zw_40_1 zr_118_9 ?_ ?_
            · intro h18
              refine zw_push zr_118_21 ?_
              refine zw_R zr_118_23 (by decide) zm_118 (v := (0, (-100000))) rfl ?_
              rw [← hQ]; exact ⟨_, rfl, by omega, by omega, hI0, hF0⟩
            · intro h19; omega
          · intro h20; omega
        · intro h21
          refine zw_3 zr_49_4 rfl ?_
          refine zw_7 zr_49_5 rfl ?_
          refine zw_46i zr_49_6 ef7 rfl rfl rfl ?_
          refine zw_41_3 zr_49_9 ?_ ?_
          · intro h22
            refine zw_push zr_49_16 ?_
            refine zw_R zr_49_17 (by decide) zm_49 (v := (0, 0)) (zRetB (by omega)) ?_
            rw [← hQ2]
            show zW E (d - 1) 50 13 [(2, 1), (0, a0), (0, a1)] [(0, 0)] m0 Q1
            refine zw_40_1 zr_50_13 ?_ ?_
            · intro h23
              refine zw_push zr_50_25 ?_
              refine zw_R zr_50_26 (by decide) zm_50 (v := (0, 0)) (zRetB (by omega)) ?_
              rw [← hQ1]
              show zW E (d) 118 9 [(2, 0), (0, a0), (0, a1), (0, a2)] [(0, 0)] m0 Q
              refine zw_40_1 zr_118_9 ?_ ?_
              · intro h24
                refine zw_push zr_118_21 ?_
                refine zw_R zr_118_23 (by decide) zm_118 (v := (0, (-100000))) rfl ?_
                rw [← hQ]; exact ⟨_, rfl, by omega, by omega, hI0, hF0⟩
              · intro h25; omega
            · intro h26; omega
          · intro h27
            refine zw_push zr_49_12 ?_
            refine zw_42 zr_49_13 ?_
            refine zw_R zr_49_17 (by decide) zm_49 (v := (0, 1)) (zRetB (by omega)) ?_
            rw [← hQ2]
            show zW E (d - 1) 50 13 [(2, 1), (0, a0), (0, a1)] [(0, 1)] m0 Q1
            refine zw_40_1 zr_50_13 ?_ ?_
            · intro h28; omega
            · intro h29
              refine zw_3 zr_50_16 rfl ?_
              refine zw_3 zr_50_17 rfl ?_
              refine zw_41_1 zr_50_18 ?_ ?_
              · intro h30
                refine zw_push zr_50_25 ?_
                refine zw_R zr_50_26 (by decide) zm_50 (v := (0, 0)) (zRetB (by omega)) ?_
                rw [← hQ1]
                show zW E (d) 118 9 [(2, 0), (0, a0), (0, a1), (0, a2)] [(0, 0)] m0 Q
                refine zw_40_1 zr_118_9 ?_ ?_
                · intro h31
                  refine zw_push zr_118_21 ?_
                  refine zw_R zr_118_23 (by decide) zm_118 (v := (0, (-100000))) rfl ?_
                  rw [← hQ]; exact ⟨_, rfl, by omega, by omega, hI0, hF0⟩
                · intro h32; omega
              · intro h33
                refine zw_push zr_50_21 ?_
                refine zw_42 zr_50_22 ?_
                refine zw_R zr_50_26 (by decide) zm_50 (v := (0, 1)) (zRetB (by omega)) ?_
                rw [← hQ1]
                show zW E (d) 118 9 [(2, 0), (0, a0), (0, a1), (0, a2)] [(0, 1)] m0 Q
                refine zw_40_1 zr_118_9 ?_ ?_
                · intro h34; omega
                · intro h35
                  refine zw_3 zr_118_12 rfl ?_
                  refine zw_push zr_118_13 ?_
                  refine zw_push zr_118_14 ?_
                  refine zw_C zr_118_15 (Or.inr rfl) zm_100 rfl rfl ⟨Nat.le_of_ble_eq_true rfl, Nat.le_of_ble_eq_true rfl, Nat.le_of_ble_eq_true rfl, rfl, by decide⟩ (by omega) (P := (fun v m' => zW E (d) 118 18 [(2, 0), (0, a0), (0, a1), (0, a2)] (if v.1 = 9 then [] else v :: []) m' Q)) ?_ (fun _ _ h => h)
                  generalize hQ1 : (fun v m' => zW E (d) 118 18 [(2, 0), (0, a0), (0, a1), (0, a2)] (if v.1 = 9 then [] else v :: []) m' Q) = Q1
                  show zW E (d - 1) 100 0 [(0, a2), (0, 0), (0, 1)] [] m0 Q1
                  refine zw_3 zr_100_0 rfl ?_
                  refine zw_3 zr_100_1 rfl ?_
                  refine zw_41_0 zr_100_2 ?_ ?_
                  · intro h36
                    refine zw_push zr_100_14 ?_
                    refine zw_R zr_100_15 (by decide) zm_100 (v := (0, 0)) (zRetB (by omega)) ?_
                    rw [← hQ1]
                    show zW E (d) 118 18 [(2, 0), (0, a0), (0, a1), (0, a2)] [(0, 0)] m0 Q
                    refine zw_40_4 zr_118_18 ?_ ?_
                    · intro h37; omega
                    · intro h38
                      refine zw_push zr_118_21 ?_
                      refine zw_R zr_118_23 (by decide) zm_118 (v := (0, (-100000))) rfl ?_
                      rw [← hQ]; exact ⟨_, rfl, by omega, by omega, hI0, hF0⟩
                  · intro h39
                    refine zw_3 zr_100_5 rfl ?_
                    refine zw_3 zr_100_6 rfl ?_
                    refine zw_41_2 zr_100_7 ?_ ?_
                    · intro h40
                      refine zw_push zr_100_14 ?_
                      refine zw_R zr_100_15 (by decide) zm_100 (v := (0, 0)) (zRetB (by omega)) ?_
                      rw [← hQ1]
                      show zW E (d) 118 18 [(2, 0), (0, a0), (0, a1), (0, a2)] [(0, 0)] m0 Q
                      refine zw_40_4 zr_118_18 ?_ ?_
                      · intro h41; omega
                      · intro h42
                        refine zw_push zr_118_21 ?_
                        refine zw_R zr_118_23 (by decide) zm_118 (v := (0, (-100000))) rfl ?_
                        rw [← hQ]; exact ⟨_, rfl, by omega, by omega, hI0, hF0⟩
                    · intro h43
                      refine zw_push zr_100_10 ?_
                      refine zw_42 zr_100_11 ?_
                      refine zw_R zr_100_15 (by decide) zm_100 (v := (0, 1)) (zRetB (by omega)) ?_
                      rw [← hQ1]
                      show zW E (d) 118 18 [(2, 0), (0, a0), (0, a1), (0, a2)] [(0, 1)] m0 Q
                      refine zw_40_4 zr_118_18 ?_ ?_
                      · intro h44
                        refine zw_7 zr_118_24 rfl ?_
                        refine zw_46r (s := 55) zr_118_25 rfl rfl rfl rfl ?_
                        refine zw_C zr_118_28 (Or.inl rfl) zm_84 rfl rfl ⟨Nat.le_of_ble_eq_true rfl, Nat.le_of_ble_eq_true rfl, Nat.le_of_ble_eq_true rfl, rfl, by decide⟩ (by omega) (th_84 (d := d - 1) (by omega) hI0        ) ?_
                        rintro _ m45 ⟨r46, rfl, hr46a, hr46b, hIm45, gm45⟩
                        have hFm45 : zFr W_118 m0 m45 := hF0.trans gm45 rfl
                        have km45_1_0 : m45 1 0 = f7 := (gm45 1 0 rfl).trans ef7
                        show zW E (d) 118 31 [(2, 0), (0, a0), (0, a1), (0, a2)] [(0, r46)] m45 Q
                        refine zw_40_4 zr_118_31 ?_ ?_
                        · intro h47
                          refine zw_7 zr_118_37 rfl ?_
                          refine zw_46r (s := 60) zr_118_38 rfl rfl rfl rfl ?_
                          refine zw_3 zr_118_41 rfl ?_
                          refine zw_3 zr_118_42 rfl ?_
                          refine zw_C zr_118_43 (Or.inl rfl) zm_68 rfl rfl ⟨Nat.le_of_ble_eq_true rfl, Nat.le_of_ble_eq_true rfl, Nat.le_of_ble_eq_true rfl, rfl, by decide⟩ (by omega) (th_68 (d := d - 1) (by omega) hIm45 (a0 := a0) (a1 := a1)      (by omega) (by omega) ) ?_
                          rintro _ m48 ⟨r49, rfl, hr49a, hr49b, hIm48, gm48⟩
                          have hFm48 : zFr W_118 m0 m48 := hFm45.trans gm48 rfl
                          have km48_1_0 : m48 1 0 = f7 := (gm48 1 0 rfl).trans km45_1_0
                          show zW E (d) 118 46 [(2, 0), (0, a0), (0, a1), (0, a2)] [(0, r49)] m48 Q
                          refine zw_40_4 zr_118_46 ?_ ?_
                          · intro h50
                            refine zw_3 zr_118_52 rfl ?_
                            refine zw_40_4 zr_118_53 ?_ ?_
                            · intro h51
                              refine zw_7 zr_118_69 rfl ?_
                              refine zw_46r (s := 55) zr_118_70 rfl rfl rfl rfl ?_
                              refine zw_3 zr_118_73 rfl ?_
                              refine zw_3 zr_118_74 rfl ?_
                              refine zw_C zr_118_75 (Or.inl rfl) zm_85 rfl rfl ⟨Nat.le_of_ble_eq_true rfl, Nat.le_of_ble_eq_true rfl, Nat.le_of_ble_eq_true rfl, rfl, by decide⟩ (by omega) (th_85 (d := d - 1) (by omega) hIm48 (a0 := a0) (a1 := a1)      (by omega) (by omega) ) ?_
                              rintro _ m52 ⟨r53, rfl, hr53a, hr53b, hIm52, gm52⟩
                              have hFm52 : zFr W_118 m0 m52 := hFm48.trans gm52 rfl
                              have km52_1_0 : m52 1 0 = f7 := (gm52 1 0 rfl).trans km48_1_0
                              show zW E (d) 118 78 [(2, 0), (0, a0), (0, a1), (0, a2)] [(0, r53)] m52 Q
                              refine zw_R zr_118_78 (by decide) zm_118 (v := (0, r53)) rfl ?_
                              rw [← hQ]; exact ⟨_, rfl, by omega, by omega, hIm52, hFm52⟩
                            · intro h54
                              refine zw_7 zr_118_56 rfl ?_
                              refine zw_46r (s := 55) zr_118_57 rfl rfl rfl rfl ?_
                              refine zw_3 zr_118_60 rfl ?_
                              refine zw_3 zr_118_61 rfl ?_
                              refine zw_C zr_118_62 (Or.inl rfl) zm_85 rfl rfl ⟨Nat.le_of_ble_eq_true rfl, Nat.le_of_ble_eq_true rfl, Nat.le_of_ble_eq_true rfl, rfl, by decide⟩ (by omega) (th_85 (d := d - 1) (by omega) hIm48 (a0 := a1) (a1 := a0)      (by omega) (by omega) ) ?_
                              rintro _ m55 ⟨r56, rfl, hr56a, hr56b, hIm55, gm55⟩
                              have hFm55 : zFr W_118 m0 m55 := hFm48.trans gm55 rfl
                              have km55_1_0 : m55 1 0 = f7 := (gm55 1 0 rfl).trans km48_1_0
                              show zW E (d) 118 65 [(2, 0), (0, a0), (0, a1), (0, a2)] [(0, r56)] m55 Q
                              refine zw_38h zr_118_65 ?_
                              intro x57 hx57a hx57b
                              refine zw_42 zr_118_66 ?_
                              refine zw_R zr_118_78 (by decide) zm_118 (v := (0, x57)) rfl ?_
                              rw [← hQ]; exact ⟨_, rfl, by omega, by omega, hIm55, hFm55⟩
                          · intro h58
                            refine zw_push zr_118_49 ?_
                            refine zw_R zr_118_51 (by decide) zm_118 (v := (0, (-300000))) rfl ?_
                            rw [← hQ]; exact ⟨_, rfl, by omega, by omega, hIm48, hFm48⟩
                        · intro h59
                          refine zw_push zr_118_34 ?_
                          refine zw_R zr_118_36 (by decide) zm_118 (v := (0, (-200000))) rfl ?_
                          rw [← hQ]; exact ⟨_, rfl, by omega, by omega, hIm45, hFm45⟩
                      · intro h60; omega
