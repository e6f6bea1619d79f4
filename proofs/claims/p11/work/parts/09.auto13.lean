abbrev W_96 : List (Nat × Nat) := [(63, 0), (64, 1000), (66, 1000), (67, 1000)]
def rs_96 (E : zE) (d : Nat) : Prop := ∀ (m0 : zM) (a0 : Int) (a1 : Int), (10 - a0).toNat + 4 ≤ d → zInv m0 → (0 ≤ a0 ∧ a0 ≤ 10) → ((-2147483648) ≤ a1 ∧ a1 ≤ 2147483647) → zC E d 96 [(2, 63), (0, a0), (0, a1)] m0 (fun v m' => v = (9, 0) ∧ zInv m' ∧ zFr W_96 m0 m')
set_option maxHeartbeats 8000000 in
theorem tr_96 {E : zE} {d : Nat} (ih96 : rs_96 E (d - 1)) : rs_96 E d := by
  intro m0 a0 a1 hd hI0 ha0 ha1
  have hF0 : zFr W_96 m0 m0 := zFr.rfl
  generalize hQ : (fun (v : zV) (m' : zM) => v = (9, 0) ∧ zInv m' ∧ zFr W_96 m0 m') = Q
  show zW E d 96 0 [(2, 63), (0, a0), (0, a1), (9, 0), (9, 0), (9, 0)] [] m0 Q
  refine zw_3 zr_96_0 rfl ?_
  refine zw_7 zr_96_1 rfl ?_
  refine zw_46r (s := 1) zr_96_2 rfl rfl rfl rfl ?_
  obtain ⟨f1, ef1⟩ : ∃ v, m0 1 0 = v := ⟨_, rfl⟩
  have bf1 := ib_1_0 hI0
  rw [ef1] at bf1
  refine zw_46i zr_96_5 ef1 rfl rfl rfl ?_
  refine zw_41_0 zr_96_8 ?_ ?_
  · intro h2
    refine zw_7 zr_96_40 rfl ?_
    refine zw_3 zr_96_41 rfl ?_
    refine zw_C zr_96_42 (Or.inl rfl) zm_95 rfl rfl ⟨Nat.le_of_ble_eq_true rfl, Nat.le_of_ble_eq_true rfl, Nat.le_of_ble_eq_true rfl, rfl, by decide⟩ (by omega) (th_95 (d := d - 1) (by omega) hI0 (a0 := a0)      (by omega) ) ?_
    rintro _ m3 ⟨rfl, hIm3, gm3⟩
    have hFm3 : zFr W_96 m0 m3 := hF0.trans gm3 rfl
    have km3_1_0 : m3 1 0 = f1 := (gm3 1 0 rfl).trans ef1
    show zW E (d) 96 45 [(2, 63), (0, a0), (0, a1), (9, 0), (9, 0), (9, 0)] [] m3 Q
    refine zw_3 zr_96_45 rfl ?_
    refine zw_40_4 zr_96_46 ?_ ?_
    · intro h4
      refine zw_push zr_96_53 ?_
      refine zw_9 (L' := [(2, 63), (0, a0), (0, a1), (0, 3), (9, 0), (9, 0)]) zr_96_54 (Nat.le_of_ble_eq_true rfl) rfl ?_
      refine zw_push zr_96_55 ?_
      refine zw_10 (L' := [(2, 63), (0, a0), (0, a1), (0, 3), (0, 0), (9, 0)]) zr_96_56 (Nat.le_of_ble_eq_true rfl) rfl ?_
      have lp58_7 : ∀ (nlp58_7 : Nat) (i5 : Int) (m6 : zM), zInv m6 → zFr W_96 m0 m6 → m6 1 0 = f1 → 0 ≤ i5 → i5 ≤ 3 → (3 - i5).toNat < nlp58_7 → zW E (d) 96 58 [(2, 63), (0, a0), (0, a1), (0, 3), (0, i5), (9, 0)] [] m6 Q := by
        intro nlp58_7
        induction nlp58_7 with
        | zero =>
          intros
          exact absurd (by assumption : _ < 0) (Nat.not_lt_zero _)
        | succ nlp58_7 ihlp58_7 =>
          intro i5 m6 hIm6 hFm6 km6_1_0 li5 ui5 hmlp58_7
          refine zw_4 zr_96_58 rfl ?_
          refine zw_3 zr_96_60 rfl ?_
          refine zw_41_3 zr_96_61 ?_ ?_
          · intro h9
            refine zw_R zr_96_120 (by decide) zm_96 (v := (9, 0)) rfl ?_
            rw [← hQ]; exact ⟨rfl, hIm6, hFm6⟩
          · intro h10
            refine zw_3 zr_96_64 rfl ?_
            refine zw_7 zr_96_65 rfl ?_
            refine zw_46r (s := 67) zr_96_66 rfl rfl rfl rfl ?_
            refine zw_3 zr_96_69 rfl ?_
            refine zw_push zr_96_70 ?_
            refine zw_18 zr_96_71 (by omega) ?_
            refine zw_4 zr_96_72 rfl ?_
            refine zw_16 zr_96_74 (by omega) ?_
            refine zw_48 (c := 67) (len := 30) zr_96_75 rfl rfl (by omega) (by omega) ?_
            intro x11 ex11
            have bx11 := hIm6.ra (c := 67) (len := 30) (k := (((a0 * 3) + i5)).toNat) rfl (by omega)
            rw [← ex11] at bx11
            clear ex11
            refine zw_16h zr_96_76 ?_
            intro x12 hx12a hx12b
            refine zw_10 (L' := [(2, 63), (0, a0), (0, a1), (0, 3), (0, i5), (0, x12)]) zr_96_77 (Nat.le_of_ble_eq_true rfl) rfl ?_
            refine zw_4 zr_96_79 rfl ?_
            refine zw_7 zr_96_81 rfl ?_
            refine zw_46r (s := 68) zr_96_82 rfl rfl rfl rfl ?_
            refine zw_3 zr_96_85 rfl ?_
            refine zw_push zr_96_86 ?_
            refine zw_16 zr_96_87 (by omega) ?_
            refine zw_48 (c := 68) (len := 11) zr_96_88 rfl rfl (by omega) (by omega) ?_
            intro x13 ex13
            have bx13 := hIm6.ra (c := 68) (len := 11) (k := ((a0 + 1)).toNat) rfl (by omega)
            rw [← ex13] at bx13
            clear ex13
            refine zw_16h zr_96_89 ?_
            intro x14 hx14a hx14b
            refine zw_7 zr_96_90 rfl ?_
            obtain ⟨f15, ef15⟩ : ∃ v, m6 63 0 = v := ⟨_, rfl⟩
            have bf15 := hIm6.fi (c := 63) (k := 0) rfl
            rw [ef15] at bf15
            refine zw_46i zr_96_91 ef15 rfl rfl rfl ?_
            refine zw_41_5 zr_96_94 ?_ ?_
            · intro h16
              refine zw_15 (c := 1) (L' := [(2, 63), (0, a0), (0, a1), (0, 3), (0, (i5 + 1)), (0, x12)]) zr_96_114 rfl (by decide) (by omega) rfl ?_
              refine zw_42 zr_96_117 ?_
              exact zw_less (L := [(2, 63), (0, a0), (0, a1), (0, 3), (0, (i5 + 1)), (9, 0)]) ⟨Or.inr rfl, Or.inr rfl, Or.inr rfl, Or.inr rfl, Or.inr rfl, Or.inl rfl, trivial⟩ (ihlp58_7 ((i5 + 1)) m6 hIm6 hFm6  km6_1_0 (by omega) (by omega)  (by omega))
            · intro h17
              refine zw_7 zr_96_97 rfl ?_
              refine zw_46r (s := 66) zr_96_98 rfl rfl rfl rfl ?_
              refine zw_3 zr_96_101 rfl ?_
              refine zw_4 zr_96_102 rfl ?_
              refine zw_49 (c := 66) (len := 10) zr_96_104 rfl rfl (by omega) (by omega) ?_
              intro m18 em18
              have hIm18 : zInv m18 := by rw [em18]; exact iu_66 hIm6 (by omega)
              have hFm18 : zFr W_96 m0 m18 := by rw [em18]; exact hFm6.any rfl
              have km18_1_0 : m18 1 0 = f1 := by rw [em18, zUp_ne (by omega)]; exact km6_1_0
              have km18_63_0 : m18 63 0 = f15 := by rw [em18, zUp_ne (by omega)]; exact ef15
              clear em18
              refine zw_7 zr_96_105 rfl ?_
              refine zw_3 zr_96_106 rfl ?_
              refine zw_push zr_96_107 ?_
              refine zw_16 zr_96_108 (by omega) ?_
              refine zw_4 zr_96_109 rfl ?_
              refine zw_C zr_96_111 (Or.inl rfl) zm_96 rfl rfl ⟨Nat.le_of_ble_eq_true rfl, Nat.le_of_ble_eq_true rfl, Nat.le_of_ble_eq_true rfl, rfl, by decide⟩ (by omega) (ih96 m18 ((a0 + 1)) (x12) (by omega) hIm18   (by omega) (by omega) ) ?_
              rintro _ m19 ⟨rfl, hIm19, gm19⟩
              have hFm19 : zFr W_96 m0 m19 := hFm18.trans gm19 rfl
              have km19_1_0 : m19 1 0 = f1 := (gm19 1 0 rfl).trans km18_1_0
              show zW E (d) 96 114 [(2, 63), (0, a0), (0, a1), (0, 3), (0, i5), (0, x12)] [] m19 Q
              refine zw_15 (c := 1) (L' := [(2, 63), (0, a0), (0, a1), (0, 3), (0, (i5 + 1)), (0, x12)]) zr_96_114 rfl (by decide) (by omega) rfl ?_
              refine zw_42 zr_96_117 ?_
              exact zw_less (L := [(2, 63), (0, a0), (0, a1), (0, 3), (0, (i5 + 1)), (9, 0)]) ⟨Or.inr rfl, Or.inr rfl, Or.inr rfl, Or.inr rfl, Or.inr rfl, Or.inl rfl, trivial⟩ (ihlp58_7 ((i5 + 1)) m19 hIm19 hFm19  km19_1_0 (by omega) (by omega)  (by omega))
      exact lp58_7 _ (0) m3 hIm3 hFm3  km3_1_0 (by omega) (by omega)  (Nat.lt_succ_self _)
    · intro h20
      refine zw_push zr_96_49 ?_
      refine zw_42 zr_96_50 ?_
      refine zw_9 (L' := [(2, 63), (0, a0), (0, a1), (0, 1), (9, 0), (9, 0)]) zr_96_54 (Nat.le_of_ble_eq_true rfl) rfl ?_
      refine zw_push zr_96_55 ?_
      refine zw_10 (L' := [(2, 63), (0, a0), (0, a1), (0, 1), (0, 0), (9, 0)]) zr_96_56 (Nat.le_of_ble_eq_true rfl) rfl ?_
      have lp58_23 : ∀ (nlp58_23 : Nat) (i21 : Int) (m22 : zM), zInv m22 → zFr W_96 m0 m22 → m22 1 0 = f1 → 0 ≤ i21 → i21 ≤ 3 → (3 - i21).toNat < nlp58_23 → zW E (d) 96 58 [(2, 63), (0, a0), (0, a1), (0, 1), (0, i21), (9, 0)] [] m22 Q := by
        intro nlp58_23
        induction nlp58_23 with
        | zero =>
          intros
          exact absurd (by assumption : _ < 0) (Nat.not_lt_zero _)
        | succ nlp58_23 ihlp58_23 =>
          intro i21 m22 hIm22 hFm22 km22_1_0 li21 ui21 hmlp58_23
          refine zw_4 zr_96_58 rfl ?_
          refine zw_3 zr_96_60 rfl ?_
          refine zw_41_3 zr_96_61 ?_ ?_
          · intro h25
            refine zw_R zr_96_120 (by decide) zm_96 (v := (9, 0)) rfl ?_
            rw [← hQ]; exact ⟨rfl, hIm22, hFm22⟩
          · intro h26
            refine zw_3 zr_96_64 rfl ?_
            refine zw_7 zr_96_65 rfl ?_
            refine zw_46r (s := 67) zr_96_66 rfl rfl rfl rfl ?_
            refine zw_3 zr_96_69 rfl ?_
            refine zw_push zr_96_70 ?_
            refine zw_18 zr_96_71 (by omega) ?_
            refine zw_4 zr_96_72 rfl ?_
            refine zw_16 zr_96_74 (by omega) ?_
            obtain ⟨f27, ef27⟩ : ∃ v, m22 67 0 = v := ⟨_, rfl⟩
            have bf27 : (-2147483648) ≤ m22 67 0 ∧ m22 67 0 ≤ 2147483647 := hIm22.ra (c := 67) (len := 30) rfl (by omega)
            rw [ef27] at bf27
            refine zw_48k (c := 67) (len := 30) zr_96_75 rfl rfl (by omega) (by omega) (show (((a0 * 3) + i21) : Int).toNat = 0 by omega) ef27 ?_
            refine zw_16h zr_96_76 ?_
            intro x28 hx28a hx28b
            refine zw_10 (L' := [(2, 63), (0, a0), (0, a1), (0, 1), (0, i21), (0, x28)]) zr_96_77 (Nat.le_of_ble_eq_true rfl) rfl ?_
            refine zw_4 zr_96_79 rfl ?_
            refine zw_7 zr_96_81 rfl ?_
            refine zw_46r (s := 68) zr_96_82 rfl rfl rfl rfl ?_
            refine zw_3 zr_96_85 rfl ?_
            refine zw_push zr_96_86 ?_
            refine zw_16 zr_96_87 (by omega) ?_
            obtain ⟨f29, ef29⟩ : ∃ v, m22 68 1 = v := ⟨_, rfl⟩
            have bf29 : (-2147483648) ≤ m22 68 1 ∧ m22 68 1 ≤ 2147483647 := hIm22.ra (c := 68) (len := 11) rfl (by omega)
            rw [ef29] at bf29
            refine zw_48k (c := 68) (len := 11) zr_96_88 rfl rfl (by omega) (by omega) (show ((a0 + 1) : Int).toNat = 1 by omega) ef29 ?_
            refine zw_16h zr_96_89 ?_
            intro x30 hx30a hx30b
            refine zw_7 zr_96_90 rfl ?_
            obtain ⟨f31, ef31⟩ : ∃ v, m22 63 0 = v := ⟨_, rfl⟩
            have bf31 := hIm22.fi (c := 63) (k := 0) rfl
            rw [ef31] at bf31
            refine zw_46i zr_96_91 ef31 rfl rfl rfl ?_
            refine zw_41_5 zr_96_94 ?_ ?_
            · intro h32
              refine zw_15 (c := 1) (L' := [(2, 63), (0, a0), (0, a1), (0, 1), (0, (i21 + 1)), (0, x28)]) zr_96_114 rfl (by decide) (by omega) rfl ?_
              refine zw_42 zr_96_117 ?_
              exact zw_less (L := [(2, 63), (0, a0), (0, a1), (0, 1), (0, (i21 + 1)), (9, 0)]) ⟨Or.inr rfl, Or.inr rfl, Or.inr rfl, Or.inr rfl, Or.inr rfl, Or.inl rfl, trivial⟩ (ihlp58_23 ((i21 + 1)) m22 hIm22 hFm22  km22_1_0 (by omega) (by omega)  (by omega))
            · intro h33
              refine zw_7 zr_96_97 rfl ?_
              refine zw_46r (s := 66) zr_96_98 rfl rfl rfl rfl ?_
              refine zw_3 zr_96_101 rfl ?_
              refine zw_4 zr_96_102 rfl ?_
              refine zw_49 (c := 66) (len := 10) zr_96_104 rfl rfl (by omega) (by omega) ?_
              intro m34 em34
              have hIm34 : zInv m34 := by rw [em34]; exact iu_66 hIm22 (by omega)
              have hFm34 : zFr W_96 m0 m34 := by rw [em34]; exact hFm22.any rfl
              have km34_1_0 : m34 1 0 = f1 := by rw [em34, zUp_ne (by omega)]; exact km22_1_0
              have km34_67_0 : m34 67 0 = f27 := by rw [em34, zUp_ne (by omega)]; exact ef27
              have km34_68_1 : m34 68 1 = f29 := by rw [em34, zUp_ne (by omega)]; exact ef29
              have km34_63_0 : m34 63 0 = f31 := by rw [em34, zUp_ne (by omega)]; exact ef31
              have km34_66_0 : m34 66 0 = i21 := by rw [em34, show (a0 : Int).toNat = 0 by omega]; exact zUp_eq _ _ _ _
              clear em34
              refine zw_7 zr_96_105 rfl ?_
              refine zw_3 zr_96_106 rfl ?_
              refine zw_push zr_96_107 ?_
              refine zw_16 zr_96_108 (by omega) ?_
              refine zw_4 zr_96_109 rfl ?_
              refine zw_C zr_96_111 (Or.inl rfl) zm_96 rfl rfl ⟨Nat.le_of_ble_eq_true rfl, Nat.le_of_ble_eq_true rfl, Nat.le_of_ble_eq_true rfl, rfl, by decide⟩ (by omega) (ih96 m34 ((a0 + 1)) (x28) (by omega) hIm34   (by omega) (by omega) ) ?_
              rintro _ m35 ⟨rfl, hIm35, gm35⟩
              have hFm35 : zFr W_96 m0 m35 := hFm34.trans gm35 rfl
              have km35_1_0 : m35 1 0 = f1 := (gm35 1 0 rfl).trans km34_1_0
              have km35_68_1 : m35 68 1 = f29 := (gm35 68 1 rfl).trans km34_68_1
              show zW E (d) 96 114 [(2, 63), (0, a0), (0, a1), (0, 1), (0, i21), (0, x28)] [] m35 Q
              refine zw_15 (c := 1) (L' := [(2, 63), (0, a0), (0, a1), (0, 1), (0, (i21 + 1)), (0, x28)]) zr_96_114 rfl (by decide) (by omega) rfl ?_
              refine zw_42 zr_96_117 ?_
              exact zw_less (L := [(2, 63), (0, a0), (0, a1), (0, 1), (0, (i21 + 1)), (9, 0)]) ⟨Or.inr rfl, Or.inr rfl, Or.inr rfl, Or.inr rfl, Or.inr rfl, Or.inl rfl, trivial⟩ (ihlp58_23 ((i21 + 1)) m35 hIm35 hFm35  km35_1_0 (by omega) (by omega)  (by omega))
      exact lp58_23 _ (0) m3 hIm3 hFm3  km3_1_0 (by omega) (by omega)  (Nat.lt_succ_self _)
  · intro h36
    refine zw_3 zr_96_11 rfl ?_
    refine zw_7 zr_96_12 rfl ?_
    obtain ⟨f37, ef37⟩ : ∃ v, m0 63 0 = v := ⟨_, rfl⟩
    have bf37 := hI0.fi (c := 63) (k := 0) rfl
    rw [ef37] at bf37
    refine zw_46i zr_96_13 ef37 rfl rfl rfl ?_
    refine zw_41_5 zr_96_16 ?_ ?_
    · intro h38
      refine zw_R zr_96_39 (by decide) zm_96 (v := (9, 0)) rfl ?_
      rw [← hQ]; exact ⟨rfl, hI0, hF0⟩
    · intro h39
      refine zw_7 zr_96_19 rfl ?_
      refine zw_3 zr_96_20 rfl ?_
      refine zw_47 (c := 63) zr_96_21 rfl ⟨rfl, by decide, rfl⟩ ?_
      intro m40 em40
      have hIm40 : zInv m40 := by rw [em40]; exact hI0.any (by omega) rfl (by decide) (by decide)
      have hFm40 : zFr W_96 m0 m40 := by rw [em40]; exact hF0.up rfl
      have km40_1_0 : m40 1 0 = f1 := by rw [em40, zUp_ne (by omega)]; exact ef1
      have km40_63_0 : m40 63 0 = a1 := by rw [em40]; exact zUp_eq _ _ _ _
      clear em40
      refine zw_7 zr_96_24 rfl ?_
      refine zw_46r (s := 66) zr_96_25 rfl rfl rfl rfl ?_
      refine zw_push zr_96_28 ?_
      refine zw_7 zr_96_29 rfl ?_
      refine zw_46r (s := 64) zr_96_30 rfl rfl rfl rfl ?_
      refine zw_push zr_96_33 ?_
      refine zw_push zr_96_34 ?_
      refine zw_114 (c1 := 64) (c2 := 66) (l1 := 10) (l2 := 10) zr_96_36 rfl rfl rfl rfl (by decide) (Nat.le_of_ble_eq_true rfl) (by omega) (by omega) ?_
      intro m41 em41
      have hIm41 : zInv m41 := by rw [em41]; exact zInv.cp0 hIm40 (l2 := 10) (fun _ => rfl) rfl (by omega) (by decide) (by decide)
      have hFm41 : zFr W_96 m0 m41 := by rw [em41]; exact hFm40.cp rfl
      have km41_1_0 : m41 1 0 = f1 := by rw [em41, zCp_ne (by decide)]; exact km40_1_0
      have km41_63_0 : m41 63 0 = a1 := by rw [em41, zCp_ne (by decide)]; exact km40_63_0
      clear em41
      refine zw_R zr_96_39 (by decide) zm_96 (v := (9, 0)) rfl ?_
      rw [← hQ]; exact ⟨rfl, hIm41, hFm41⟩
theorem gr_96 (E : zE) : ∀ d, rs_96 E d := by
  intro d
  induction d with
  | zero => exact (by intro m0 a0 a1 hd; exfalso; omega)
  | succ d ih => exact tr_96 (d := d + 1) ih
theorem th_96 {E : zE} {d : Nat} {m0 : zM} {a0 : Int} {a1 : Int} (hd : (10 - a0).toNat + 4 ≤ d) (hI0 : zInv m0) (ha0 : 0 ≤ a0 ∧ a0 ≤ 10) (ha1 : (-2147483648) ≤ a1 ∧ a1 ≤ 2147483647) : zC E d 96 [(2, 63), (0, a0), (0, a1)] m0 (fun v m' => v = (9, 0) ∧ zInv m' ∧ zFr W_96 m0 m') := (gr_96 E d) m0 a0 a1 hd hI0 ha0 ha1

abbrev W_97 : List (Nat × Nat) := [(63, 0), (64, 1000), (65, 1000), (66, 1000), (67, 1000), (68, 1000)]
set_option maxHeartbeats 8000000 in
theorem th_97 {E : zE} {d : Nat} {m0 : zM} (hd : 15 ≤ d) (hI0 : zInv m0) : zC E d 97 [(2, 63)] m0 (fun v m' => v = (9, 0) ∧ zInv m' ∧ zFr W_97 m0 m') := by
  have hF0 : zFr W_97 m0 m0 := zFr.rfl
  generalize hQ : (fun (v : zV) (m' : zM) => v = (9, 0) ∧ zInv m' ∧ zFr W_97 m0 m') = Q
  show zW E d 97 0 [(2, 63)] [] m0 Q
  refine zw_7 zr_97_0 rfl ?_
  obtain ⟨f1, ef1⟩ : ∃ v, m0 1 1 = v := ⟨_, rfl⟩
  have bf1 := ib_1_1 hI0
  rw [ef1] at bf1
  obtain ⟨f2, ef2⟩ : ∃ v, m0 1 2 = v := ⟨_, rfl⟩
  have bf2 := ib_1_2 hI0
  rw [ef2] at bf2
  refine zw_C zr_97_1 (Or.inl rfl) zm_90 rfl rfl ⟨Nat.le_of_ble_eq_true rfl, Nat.le_of_ble_eq_true rfl, Nat.le_of_ble_eq_true rfl, rfl, by decide⟩ (by omega) (th_90 (d := d - 1) (by omega) hI0  (g0 := f1) (g1 := f2)  (F65 := m0 65) (F6 := m0 6) (F7 := m0 7) (F8 := m0 8) ef1 ef2 rfl rfl rfl rfl  ) ?_
  rintro _ m3 ⟨rfl, hIm3, gm3, po0_m3⟩
  have hFm3 : zFr W_97 m0 m3 := hF0.trans gm3 rfl
  have km3_1_1 : m3 1 1 = f1 := (gm3 1 1 rfl).trans ef1
  have km3_1_2 : m3 1 2 = f2 := (gm3 1 2 rfl).trans ef2
  show zW E (d) 97 4 [(2, 63)] [] m3 Q
  refine zw_7 zr_97_4 rfl ?_
  refine zw_C zr_97_5 (Or.inl rfl) zm_94 rfl rfl ⟨Nat.le_of_ble_eq_true rfl, Nat.le_of_ble_eq_true rfl, Nat.le_of_ble_eq_true rfl, rfl, by decide⟩ (by omega) (th_94 (d := d - 1) (by omega) hIm3        ) ?_
  rintro _ m4 ⟨rfl, hIm4, gm4⟩
  have hFm4 : zFr W_97 m0 m4 := hFm3.trans gm4 rfl
  have km4_1_1 : m4 1 1 = f1 := (gm4 1 1 rfl).trans km3_1_1
  have km4_1_2 : m4 1 2 = f2 := (gm4 1 2 rfl).trans km3_1_2
  show zW E (d) 97 8 [(2, 63)] [] m4 Q
  refine zw_7 zr_97_8 rfl ?_
  refine zw_push zr_97_9 ?_
  refine zw_47 (c := 63) zr_97_10 rfl ⟨rfl, by decide, rfl⟩ ?_
  intro m5 em5
  have hIm5 : zInv m5 := by rw [em5]; exact hIm4.any (by omega) rfl (by decide) (by decide)
  have hFm5 : zFr W_97 m0 m5 := by rw [em5]; exact hFm4.up rfl
  have km5_1_1 : m5 1 1 = f1 := by rw [em5, zUp_ne (by omega)]; exact km4_1_1
  have km5_1_2 : m5 1 2 = f2 := by rw [em5, zUp_ne (by omega)]; exact km4_1_2
  have km5_63_0 : m5 63 0 = (-1) := by rw [em5]; exact zUp_eq _ _ _ _
  clear em5
  refine zw_7 zr_97_13 rfl ?_
  refine zw_push zr_97_14 ?_
  refine zw_push zr_97_15 ?_
  refine zw_C zr_97_16 (Or.inl rfl) zm_96 rfl rfl ⟨Nat.le_of_ble_eq_true rfl, Nat.le_of_ble_eq_true rfl, Nat.le_of_ble_eq_true rfl, rfl, by decide⟩ (by omega) (th_96 (d := d - 1) (by omega) hIm5 (a0 := 0) (a1 := 0)      (by omega) (by omega) ) ?_
  rintro _ m6 ⟨rfl, hIm6, gm6⟩
  have hFm6 : zFr W_97 m0 m6 := hFm5.trans gm6 rfl
  have km6_1_1 : m6 1 1 = f1 := (gm6 1 1 rfl).trans km5_1_1
  have km6_1_2 : m6 1 2 = f2 := (gm6 1 2 rfl).trans km5_1_2
  show zW E (d) 97 19 [(2, 63)] [] m6 Q
  refine zw_R zr_97_19 (by decide) zm_97 (v := (9, 0)) rfl ?_
  rw [← hQ]; exact ⟨rfl, hIm6, hFm6⟩

abbrev W_125 : List (Nat × Nat) := [(63, 0), (64, 1000), (65, 1000), (66, 1000), (67, 1000), (68, 1000)]
set_option maxHeartbeats 8000000 in
theorem th_125 {E : zE} {d : Nat} {m0 : zM} {a0 : Int} (hd : 16 ≤ d) (hI0 : zInv m0) (ha0 : (-2147483648) ≤ a0 ∧ a0 ≤ 2147483647) : zC E d 125 [(2, 0), (0, a0)] m0 (fun v m' => ∃ r : Int, v = (0, r) ∧ (-2147483648) ≤ r ∧ r ≤ 2147483647 ∧ zInv m' ∧ zFr W_125 m0 m') := by
  have hF0 : zFr W_125 m0 m0 := zFr.rfl
  generalize hQ : (fun (v : zV) (m' : zM) => ∃ r : Int, v = (0, r) ∧ (-2147483648) ≤ r ∧ r ≤ 2147483647 ∧ zInv m' ∧ zFr W_125 m0 m') = Q
  show zW E d 125 0 [(2, 0), (0, a0)] [] m0 Q
  refine zw_3 zr_125_0 rfl ?_
  refine zw_push zr_125_1 ?_
  refine zw_41_1 zr_125_2 ?_ ?_
  · intro h1
    refine zw_7 zr_125_19 rfl ?_
    refine zw_46r (s := 63) zr_125_20 rfl rfl rfl rfl ?_
    refine zw_C zr_125_23 (Or.inl rfl) zm_97 rfl rfl ⟨Nat.le_of_ble_eq_true rfl, Nat.le_of_ble_eq_true rfl, Nat.le_of_ble_eq_true rfl, rfl, by decide⟩ (by omega) (th_97 (d := d - 1) (by omega) hI0        ) ?_
    rintro _ m2 ⟨rfl, hIm2, gm2⟩
    have hFm2 : zFr W_125 m0 m2 := hF0.trans gm2 rfl
    show zW E (d) 125 26 [(2, 0), (0, a0)] [] m2 Q
    refine zw_3 zr_125_26 rfl ?_
    refine zw_push zr_125_27 ?_
    refine zw_41_4 zr_125_28 ?_ ?_
    · intro h3; omega
    · intro h4
      refine zw_7 zr_125_31 rfl ?_
      refine zw_46r (s := 63) zr_125_32 rfl rfl rfl rfl ?_
      obtain ⟨f5, ef5⟩ : ∃ v, m2 63 0 = v := ⟨_, rfl⟩
      have bf5 := hIm2.fi (c := 63) (k := 0) rfl
      rw [ef5] at bf5
      refine zw_46i zr_125_35 ef5 rfl rfl rfl ?_
      refine zw_42 zr_125_38 ?_
      refine zw_R zr_125_50 (by decide) zm_125 (v := (0, f5)) rfl ?_
      rw [← hQ]; exact ⟨_, rfl, by omega, by omega, hIm2, hFm2⟩
  · intro h6
    refine zw_7 zr_125_5 rfl ?_
    refine zw_46r (s := 1) zr_125_6 rfl rfl rfl rfl ?_
    refine zw_3 zr_125_9 rfl ?_
    refine zw_C zr_125_10 (Or.inl rfl) zm_49 rfl rfl ⟨Nat.le_of_ble_eq_true rfl, Nat.le_of_ble_eq_true rfl, Nat.le_of_ble_eq_true rfl, rfl, by decide⟩ (by omega) (P := (fun v m' => zW E (d) 125 13 [(2, 0), (0, a0)] (if v.1 = 9 then [] else v :: []) m' Q)) ?_ (fun _ _ h => h)
    generalize hQ1 : (fun v m' => zW E (d) 125 13 [(2, 0), (0, a0)] (if v.1 = 9 then [] else v :: []) m' Q) = Q1
    show zW E (d - 1) 49 0 [(2, 1), (0, a0)] [] m0 Q1
    refine zw_3 zr_49_0 rfl ?_
    refine zw_40_0 zr_49_1 ?_ ?_
    · intro h7
      refine zw_push zr_49_16 ?_
      refine zw_R zr_49_17 (by decide) zm_49 (v := (0, 0)) (zRetB (by omega)) ?_
      rw [← hQ1]
      show zW E (d) 125 13 [(2, 0), (0, a0)] [(0, 0)] m0 Q
      refine zw_40_4 zr_125_13 ?_ ?_
      · intro h8; omega
      · intro h9
        refine zw_push zr_125_16 ?_
        refine zw_R zr_125_18 (by decide) zm_125 (v := (0, (-2))) rfl ?_
        rw [← hQ]; exact ⟨_, rfl, by omega, by omega, hI0, hF0⟩
    · intro h10
      refine zw_3 zr_49_4 rfl ?_
      refine zw_7 zr_49_5 rfl ?_
      obtain ⟨f11, ef11⟩ : ∃ v, m0 1 0 = v := ⟨_, rfl⟩
      have bf11 := ib_1_0 hI0
      rw [ef11] at bf11
      refine zw_46i zr_49_6 ef11 rfl rfl rfl ?_
      refine zw_41_3 zr_49_9 ?_ ?_
      · intro h12
        refine zw_push zr_49_16 ?_
        refine zw_R zr_49_17 (by decide) zm_49 (v := (0, 0)) (zRetB (by omega)) ?_
        rw [← hQ1]
        show zW E (d) 125 13 [(2, 0), (0, a0)] [(0, 0)] m0 Q
        refine zw_40_4 zr_125_13 ?_ ?_
        · intro h13; omega
        · intro h14
          refine zw_push zr_125_16 ?_
          refine zw_R zr_125_18 (by decide) zm_125 (v := (0, (-2))) rfl ?_
          rw [← hQ]; exact ⟨_, rfl, by omega, by omega, hI0, hF0⟩
      · intro h15
        refine zw_push zr_49_12 ?_
        refine zw_42 zr_49_13 ?_
        refine zw_R zr_49_17 (by decide) zm_49 (v := (0, 1)) (zRetB (by omega)) ?_
        rw [← hQ1]
        show zW E (d) 125 13 [(2, 0), (0, a0)] [(0, 1)] m0 Q
        refine zw_40_4 zr_125_13 ?_ ?_
        · intro h16
          refine zw_7 zr_125_19 rfl ?_
          refine zw_46r (s := 63) zr_125_20 rfl rfl rfl rfl ?_
          refine zw_C zr_125_23 (Or.inl rfl) zm_97 rfl rfl ⟨Nat.le_of_ble_eq_true rfl, Nat.le_of_ble_eq_true rfl, Nat.le_of_ble_eq_true rfl, rfl, by decide⟩ (by omega) (th_97 (d := d - 1) (by omega) hI0        ) ?_
          rintro _ m17 ⟨rfl, hIm17, gm17⟩
          have hFm17 : zFr W_125 m0 m17 := hF0.trans gm17 rfl
          have km17_1_0 : m17 1 0 = f11 := (gm17 1 0 rfl).trans ef11
          show zW E (d) 125 26 [(2, 0), (0, a0)] [] m17 Q
          refine zw_3 zr_125_26 rfl ?_
          refine zw_push zr_125_27 ?_
          refine zw_41_4 zr_125_28 ?_ ?_
          · intro h18
            refine zw_7 zr_125_41 rfl ?_
            refine zw_46r (s := 63) zr_125_42 rfl rfl rfl rfl ?_
            refine zw_46r (s := 64) zr_125_45 rfl rfl rfl rfl ?_
            refine zw_3 zr_125_48 rfl ?_
            refine zw_48 (c := 64) (len := 10) zr_125_49 rfl rfl (by omega) (by omega) ?_
            intro x19 ex19
            have bx19 := hIm17.ra (c := 64) (len := 10) (k := (a0).toNat) rfl (by omega)
            rw [← ex19] at bx19
            clear ex19
            refine zw_R zr_125_50 (by decide) zm_125 (v := (0, x19)) rfl ?_
            rw [← hQ]; exact ⟨_, rfl, by omega, by omega, hIm17, hFm17⟩
          · intro h20; omega
        · intro h21; omega
