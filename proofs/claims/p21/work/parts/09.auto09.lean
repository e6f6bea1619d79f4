abbrev W_96 : List (Nat × Nat) := [(63, 0), (64, 1000), (66, 1000), (67, 1000)]
def rs_96 (E : zE) (d : Nat) : Prop := ∀ (m0 : zM) (a0 : Int) (a1 : Int), (10 - a0).toNat + 4 ≤ d → zInv m0 → (0 ≤ a0 ∧ a0 ≤ 10) → ((-2147483648) ≤ a1 ∧ a1 ≤ 2147483647) → zC E d 96 [(2, 63), (0, a0), (0, a1)] m0 (fun v m' => v = (9, 0) ∧ zInv m' ∧ zFr W_96 m0 m')
set_option maxHeartbeats 8000000 in
theorem tr_96 {E : zE} {d : Nat} (ih96 : rs_96 E (d - 1)) : rs_96 E d := by
  intro m0 a0 a1 hd hI0 ha0 ha1
  have hF0 : zFr W_96 m0 m0 := zFr.rfl
  generalize hQ : (fun (v : zV) (m' : zM) => v = (9, 0) ∧ zInv m' ∧ zFr W_96 m0 m') = Q
  show zW E d 96 0 [(2, 63), (0, a0), (0, a1), (9, 0), (9, 0), (9, 0)] [] m0 Q
  refine zw_3 zr_96_0 rfl ?_
  refine zw_7 zr_96_1 rfl ?_
  refine zw_46r (s := 1) zr_96_2 rfl rfl rfl rfl ?_
  obtain ⟨f1, ef1⟩ : ∃ v, m0 1 0 = v := ⟨_, rfl⟩
  have bf1 := ib_1_0 hI0
  rw [ef1] at bf1
  refine zw_46i zr_96_5 ef1 rfl rfl rfl ?_
  refine zw_41_0 zr_96_8 ?_ ?_
  · intro h2
    refine zw_7 zr_96_40 rfl ?_
    refine zw_3 zr_96_41 rfl ?_
    refine zw_C zr_96_42 (Or.inl rfl) zm_95 rfl rfl ⟨Nat.le_of_ble_eq_true rfl, Nat.le_of_ble_eq_true rfl, Nat.le_of_ble_eq_true rfl, rfl, by decide⟩ (by omega) (th_95 (d := d - 1) (by omega) hI0 (a0 := a0)      (by omega) ) ?_
    rintro _ m3 ⟨rfl, hIm3, gm3⟩
    have hFm3 : zFr W_96 m0 m3 := hF0.trans gm3 rfl
    have km3_1_0 : m3 1 0 = f1 := (gm3 1 0 rfl).trans ef1
    show zW E (d) 96 45 [(2, 63), (0, a0), (0, a1), (9, 0), (9, 0), (9, 0)] [] m3 Q
    refine zw_3 zr_96_45 rfl ?_
    refine zw_40_4 zr_96_46 ?_ ?_
    · intro h4
      refine zw_push zr_96_53 ?_
      refine zw_9 (L' := [(2, 63), (0, a0), (0, a1), (0, 3), (9, 0), (9, 0)]) zr_96_54 (Nat.le_of_ble_eq_true rfl) rfl ?_
      refine zw_push zr_96_55 ?_
      refine zw_10 (L' := [(2, 63), (0, a0), (0, a1), (0, 3), (0, 0), (9, 0)]) zr_96_56 (Nat.le_of_ble_eq_true rfl) rfl ?_
      have lp58_7 : ∀ (nlp58_7 : Nat) (i5 : Int) (m6 : zM), zInv m6 → zFr W_96 m0 m6 → m6 1 0 = f1 → 0 ≤ i5 → i5 ≤ 3 → (3 - i5).toNat < nlp58_7 → zW E (d) 96 58 [(2, 63), (0, a0), (0, a1), (0, 3), (0, i5), (9, 0)] [] m6 Q := by
        intro nlp58_7
        induction nlp58_7 with
        | zero =>
          intros
          exact absurd (by assumption : _ < 0) (Nat.not_lt_zero _)
        | succ nlp58_7 ihlp58_7 =>
          intro i5 m6 hIm6 hFm6 km6_1_0 li5 ui5 hmlp58_7
          refine zw_4 zr_96_58 rfl ?_
          refine zw_3 zr_96_60 rfl ?_
          refine zw_41_3 zr_96_61 ?_ ?_
          · intro h9
            refine zw_R zr_96_120 (by decide) zm_96 (v := (9, 0)) rfl ?_
            rw [← hQ]; exact ⟨rfl, hIm6, hFm6⟩
          · intro h10
            refine zw_3 zr_96_64 rfl ?_
            refine zw_7 zr_96_65 rfl ?_
            refine zw_46r (s := 67) zr_96_66 rfl rfl rfl rfl ?_
            refine zw_3 zr_96_69 rfl ?_
            refine zw_push zr_96_70 ?_
            refine zw_18 zr_96_71 (by omega) ?_
            refine zw_4 zr_96_72 rfl ?_
            refine zw_16 zr_96_74 (by omega) ?_
            refine zw_48 (c := 67) (len := 30) zr_96_75 rfl rfl (by omega) (by omega) ?_
            intro x11 ex11
            have bx11 := hIm6.ra (c := 67) (len := 30) (k := (((a0 * 3) + i5)).toNat) rfl (by omega)
            rw [← ex11] at bx11
            clear ex11
            refine zw_16h zr_96_76 ?_
            intro x12 hx12a hx12b
            refine zw_10 (L' := [(2, 63), (0, a0), (0, a1), (0, 3), (0, i5), (0, x12)]) zr_96_77 (Nat.le_of_ble_eq_true rfl) rfl ?_
            refine zw_4 zr_96_79 rfl ?_
            refine zw_7 zr_96_81 rfl ?_
            refine zw_46r (s := 68) zr_96_82 rfl rfl rfl rfl ?_
            refine zw_3 zr_96_85 rfl ?_
            refine zw_push zr_96_86 ?_
            refine zw_16 zr_96_87 (by omega) ?_
            refine zw_48 (c := 68) (len := 11) zr_96_88 rfl rfl (by omega) (by omega) ?_
            intro x13 ex13
            have bx13 := hIm6.ra (c := 68) (len := 11) (k := ((a0 + 1)).toNat) rfl (by omega)
            rw [← ex13] at bx13
            clear ex13
            refine zw_16h zr_96_89 ?_
            intro x14 hx14a hx14b
            refine zw_7 zr_96_90 rfl ?_
            obtain ⟨f15, ef15⟩ : ∃ v, m6 63 0 = v := ⟨_, rfl⟩
            have bf15 := hIm6.fi (c := 63) (k := 0) rfl
            rw [ef15] at bf15
            refine zw_46i zr_96_91 ef15 rfl rfl rfl ?_
            refine zw_41_5 zr_96_94 ?_ ?_
            · intro h16
              refine zw_15 (c := 1) (L' := [(2, 63), (0, a0), (0, a1), (0, 3), (0, (i5 + 1)), (0, x12)]) zr_96_114 rfl (by decide) (by omega) rfl ?_
              refine zw_42 zr_96_117 ?_
              exact zw_less (L := [(2, 63), (0, a0), (0, a1), (0, 3), (0, (i5 + 1)), (9, 0)]) ⟨Or.inr rfl, Or.inr rfl, Or.inr rfl, Or.inr rfl, Or.inr rfl, Or.inl rfl, trivial⟩ (ihlp58_7 ((i5 + 1)) m6 hIm6 hFm6  km6_1_0 (by omega) (by omega)  (by omega))
            · intro h17
              refine zw_7 zr_96_97 rfl ?_
              refine zw_46r (s := 66) zr_96_98 rfl rfl rfl rfl ?_
              refine zw_3 zr_96_101 rfl ?_
              refine zw_4 zr_96_102 rfl ?_
              refine zw_49 (c := 66) (len := 10) zr_96_104 rfl rfl (by omega) (by omega) ?_
              intro m18 em18
              have hIm18 : zInv m18 := by rw [em18]; exact iu_66 hIm6 (by omega)
              have hFm18 : zFr W_96 m0 m18 := by rw [em18]; exact hFm6.any rfl
              have km18_1_0 : m18 1 0 = f1 := by rw [em18, zUp_ne (by omega)]; exact km6_1_0
              have km18_63_0 : m18 63 0 = f15 := by rw [em18, zUp_ne (by omega)]; exact ef15
              clear em18
              refine zw_7 zr_96_105 rfl ?_
              refine zw_3 zr_96_106 rfl ?_
              refine zw_push zr_96_107 ?_
              refine zw_16 zr_96_108 (by omega) ?_
              refine zw_4 zr_96_109 rfl ?_
              refine zw_C zr_96_111 (Or.inl rfl) zm_96 rfl rfl ⟨Nat.le_of_ble_eq_true rfl, Nat.le_of_ble_eq_true rfl, Nat.le_of_ble_eq_true rfl, rfl, by decide⟩ (by omega) (ih96 m18 ((a0 + 1)) (x12) (by omega) hIm18   (by omega) (by omega) ) ?_
              rintro _ m19 ⟨rfl, hIm19, gm19⟩
              have hFm19 : zFr W_96 m0 m19 := hFm18.trans gm19 rfl
              have km19_1_0 : m19 1 0 = f1 := (gm19 1 0 rfl).trans km18_1_0
              show zW E (d) 96 114 [(2, 63), (0, a0), (0, a1), (0, 3), (0, i5), (0, x12)] [] m19 Q
              refine zw_15 (c := 1) (L' := [(2, 63), (0, a0), (0, a1), (0, 3), (0, (i5 + 1)), (0, x12)]) zr_96_114 rfl (by decide) (by omega) rfl ?_
              refine zw_42 zr_96_117 ?_
              exact zw_less (L := [(2, 63), (0, a0), (0, a1), (0, 3), (0, (i5 + 1)), (9, 0)]) ⟨Or.inr rfl, Or.inr rfl, Or.inr rfl, Or.inr rfl, Or.inr rfl, Or.inl rfl, trivial⟩ (ihlp58_7 ((i5 + 1)) m19 hIm19 hFm19  km19_1_0 (by omega) (by omega)  (by omega))
      exact lp58_7 _ (0) m3 hIm3 hFm3  km3_1_0 (by omega) (by omega)  (Nat.lt_succ_self _)
    · intro h20
      refine zw_push zr_96_49 ?_
      refine zw_42 zr_96_50 ?_
      refine zw_9 (L' := [(2, 63), (0, a0), (0, a1), (0, 1), (9, 0), (9, 0)]) zr_96_54 (Nat.le_of_ble_eq_true rfl) rfl ?_
      refine zw_push zr_96_55 ?_
      refine zw_10 (L' := [(2, 63), (0, a0), (0, a1), (0, 1), (0, 0), (9, 0)]) zr_96_56 (Nat.le_of_ble_eq_true rfl) rfl ?_
      have lp58_23 : ∀ (nlp58_23 : Nat) (i21 : Int) (m22 : zM), zInv m22 → zFr W_96 m0 m22 → m22 1 0 = f1 → 0 ≤ i21 → i21 ≤ 3 → (3 - i21).toNat < nlp58_23 → zW E (d) 96 58 [(2, 63), (0, a0), (0, a1), (0, 1), (0, i21), (9, 0)] [] m22 Q := by
        intro nlp58_23
        induction nlp58_23 with
        | zero =>
          intros
          exact absurd (by assumption : _ < 0) (Nat.not_lt_zero _)
        | succ nlp58_23 ihlp58_23 =>
          intro i21 m22 hIm22 hFm22 km22_1_0 li21 ui21 hmlp58_23
          refine zw_4 zr_96_58 rfl ?_
          refine zw_3 zr_96_60 rfl ?_
          refine zw_41_3 zr_96_61 ?_ ?_
          · intro h25
            refine zw_R zr_96_120 (by decide) zm_96 (v := (9, 0)) rfl ?_
            rw [← hQ]; exact ⟨rfl, hIm22, hFm22⟩
          · intro h26
            refine zw_3 zr_96_64 rfl ?_
            refine zw_7 zr_96_65 rfl ?_
            refine zw_46r (s := 67) zr_96_66 rfl rfl rfl rfl ?_
            refine zw_3 zr_96_69 rfl ?_
            refine zw_push zr_96_70 ?_
            refine zw_18 zr_96_71 (by omega) ?_
            refine zw_4 zr_96_72 rfl ?_
            refine zw_16 zr_96_74 (by omega) ?_
            obtain ⟨f27, ef27⟩ : ∃ v, m22 67 0 = v := ⟨_, rfl⟩
            have bf27 : (-2147483648) ≤ m22 67 0 ∧ m22 67 0 ≤ 2147483647 := hIm22.ra (c := 67) (len := 30) rfl (by omega)
            rw [ef27] at bf27
            refine zw_48k (c := 67) (len := 30) zr_96_75 rfl rfl (by omega) (by omega) (show (((a0 * 3) + i21) : Int).toNat = 0 by omega) ef27 ?_
            refine zw_16h zr_96_76 ?_
            intro x28 hx28a hx28b
            refine zw_10 (L' := [(2, 63), (0, a0), (0, a1), (0, 1), (0, i21), (0, x28)]) zr_96_77 (Nat.le_of_ble_eq_true rfl) rfl ?_
            refine zw_4 zr_96_79 rfl ?_
            refine zw_7 zr_96_81 rfl ?_
            refine zw_46r (s := 68) zr_96_82 rfl rfl rfl rfl ?_
            refine zw_3 zr_96_85 rfl ?_
            refine zw_push zr_96_86 ?_
            refine zw_16 zr_96_87 (by omega) ?_
            obtain ⟨f29, ef29⟩ : ∃ v, m22 68 1 = v := ⟨_, rfl⟩
            have bf29 : (-2147483648) ≤ m22 68 1 ∧ m22 68 1 ≤ 2147483647 := hIm22.ra (c := 68) (len := 11) rfl (by omega)
            rw [ef29] at bf29
            refine zw_48k (c := 68) (len := 11) zr_96_88 rfl rfl (by omega) (by omega) (show ((a0 + 1) : Int).toNat = 1 by omega) ef29 ?_
            refine zw_16h zr_96_89 ?_
            intro x30 hx30a hx30b
            refine zw_7 zr_96_90 rfl ?_
            obtain ⟨f31, ef31⟩ : ∃ v, m22 63 0 = v := ⟨_, rfl⟩
            have bf31 := hIm22.fi (c := 63) (k := 0) rfl
            rw [ef31] at bf31
            refine zw_46i zr_96_91 ef31 rfl rfl rfl ?_
            refine zw_41_5 zr_96_94 ?_ ?_
            · intro h32
              refine zw_15 (c := 1) (L' := [(2, 63), (0, a0), (0, a1), (0, 1), (0, (i21 + 1)), (0, x28)]) zr_96_114 rfl (by decide) (by omega) rfl ?_
              refine zw_42 zr_96_117 ?_
              exact zw_less (L := [(2, 63), (0, a0), (0, a1), (0, 1), (0, (i21 + 1)), (9, 0)]) ⟨Or.inr rfl, Or.inr rfl, Or.inr rfl, Or.inr rfl, Or.inr rfl, Or.inl rfl, trivial⟩ (ihlp58_23 ((i21 + 1)) m22 hIm22 hFm22  km22_1_0 (by omega) (by omega)  (by omega))
            · intro h33
              refine zw_7 zr_96_97 rfl ?_
              refine zw_46r (s := 66) zr_96_98 rfl rfl rfl rfl ?_
              refine zw_3 zr_96_101 rfl ?_
              refine zw_4 zr_96_102 rfl ?_
              refine zw_49 (c := 66) (len := 10) zr_96_104 rfl rfl (by omega) (by omega) ?_
              intro m34 em34
              have hIm34 : zInv m34 := by rw [em34]; exact iu_66 hIm22 (by omega)
              have hFm34 : zFr W_96 m0 m34 := by rw [em34]; exact hFm22.any rfl
              have km34_1_0 : m34 1 0 = f1 := by rw [em34, zUp_ne (by omega)]; exact km22_1_0
              have km34_67_0 : m34 67 0 = f27 := by rw [em34, zUp_ne (by omega)]; exact ef27
              have km34_68_1 : m34 68 1 = f29 := by rw [em34, zUp_ne (by omega)]; exact ef29
              have km34_63_0 : m34 63 0 = f31 := by rw [em34, zUp_ne (by omega)]; exact ef31
              have km34_66_0 : m34 66 0 = i21 := by rw [em34, show (a0 : Int).toNat = 0 by omega]; exact zUp_eq _ _ _ _
              clear em34
              refine zw_7 zr_96_105 rfl ?_
              refine zw_3 zr_96_106 rfl ?_
              refine zw_push zr_96_107 ?_
              refine zw_16 zr_96_108 (by omega) ?_
              refine zw_4 zr_96_109 rfl ?_
              refine zw_C zr_96_111 (Or.inl rfl) zm_96 rfl rfl ⟨Nat.le_of_ble_eq_true rfl, Nat.le_of_ble_eq_true rfl, Nat.le_of_ble_eq_true rfl, rfl, by decide⟩ (by omega) (ih96 m34 ((a0 + 1)) (x28) (by omega) hIm34   (by omega) (by omega) ) ?_
              rintro _ m35 ⟨rfl, hIm35, gm35⟩
              have hFm35 : zFr W_96 m0 m35 := hFm34.trans gm35 rfl
              have km35_1_0 : m35 1 0 = f1 := (gm35 1 0 rfl).trans km34_1_0
              have km35_68_1 : m35 68 1 = f29 := (gm35 68 1 rfl).trans km34_68_1
              show zW E (d) 96 114 [(2, 63), (0, a0), (0, a1), (0, 1), (0, i21), (0, x28)] [] m35 Q
              refine zw_15 (c := 1) (L' := [(2, 63), (0, a0), (0, a1), (0, 1), (0, (i21 + 1)), (0, x28)]) zr_96_114 rfl (by decide) (by omega) rfl ?_
              refine zw_42 zr_96_117 ?_
              exact zw_less (L := [(2, 63), (0, a0), (0, a1), (0, 1), (0, (i21 + 1)), (9, 0)]) ⟨Or.inr rfl, Or.inr rfl, Or.inr rfl, Or.inr rfl, Or.inr rfl, Or.inl rfl, trivial⟩ (ihlp58_23 ((i21 + 1)) m35 hIm35 hFm35  km35_1_0 (by omega) (by omega)  (by omega))
      exact lp58_23 _ (0) m3 hIm3 hFm3  km3_1_0 (by omega) (by omega)  (Nat.lt_succ_self _)
  · intro h36
    refine zw_3 zr_96_11 rfl ?_
    refine zw_7 zr_96_12 rfl ?_
    obtain ⟨f37, ef37⟩ : ∃ v, m0 63 0 = v := ⟨_, rfl⟩
    have bf37 := hI0.fi (c := 63) (k := 0) rfl
    rw [ef37] at bf37
    refine zw_46i zr_96_13 ef37 rfl rfl rfl ?_
    refine zw_41_5 zr_96_16 ?_ ?_
    · intro h38
      refine zw_R zr_96_39 (by decide) zm_96 (v := (9, 0)) rfl ?_
      rw [← hQ]; exact ⟨rfl, hI0, hF0⟩
    · intro h39
      refine zw_7 zr_96_19 rfl ?_
      refine zw_3 zr_96_20 rfl ?_
      refine zw_47 (c := 63) zr_96_21 rfl ⟨rfl, by decide, rfl⟩ ?_
      intro m40 em40
      have hIm40 : zInv m40 := by rw [em40]; exact hI0.any (by omega) rfl (by decide) (by decide)
      have hFm40 : zFr W_96 m0 m40 := by rw [em40]; exact hF0.up rfl
      have km40_1_0 : m40 1 0 = f1 := by rw [em40, zUp_ne (by omega)]; exact ef1
      have km40_63_0 : m40 63 0 = a1 := by rw [em40]; exact zUp_eq _ _ _ _
      clear em40
      refine zw_7 zr_96_24 rfl ?_
      refine zw_46r (s := 66) zr_96_25 rfl rfl rfl rfl ?_
      refine zw_push zr_96_28 ?_
      refine zw_7 zr_96_29 rfl ?_
      refine zw_46r (s := 64) zr_96_30 rfl rfl rfl rfl ?_
      refine zw_push zr_96_33 ?_
      refine zw_push zr_96_34 ?_
      refine zw_114 (c1 := 64) (c2 := 66) (l1 := 10) (l2 := 10) zr_96_36 rfl rfl rfl rfl (by decide) (Nat.le_of_ble_eq_true rfl) (by omega) (by omega) ?_
      intro m41 em41
      have hIm41 : zInv m41 := by rw [em41]; exact zInv.cp0 hIm40 (l2 := 10) (fun _ => rfl) rfl (by omega) (by decide) (by decide)
      have hFm41 : zFr W_96 m0 m41 := by rw [em41]; exact hFm40.cp rfl
      have km41_1_0 : m41 1 0 = f1 := by rw [em41, zCp_ne (by decide)]; exact km40_1_0
      have km41_63_0 : m41 63 0 = a1 := by rw [em41, zCp_ne (by decide)]; exact km40_63_0
      clear em41
      refine zw_R zr_96_39 (by decide) zm_96 (v := (9, 0)) rfl ?_
      rw [← hQ]; exact ⟨rfl, hIm41, hFm41⟩
theorem gr_96 (E : zE) : ∀ d, rs_96 E d := by
  intro d
  induction d with
  | zero => exact (by intro m0 a0 a1 hd; exfalso; omega)
  | succ d ih => exact tr_96 (d := d + 1) ih
theorem th_96 {E : zE} {d : Nat} {m0 : zM} {a0 : Int} {a1 : Int} (hd : (10 - a0).toNat + 4 ≤ d) (hI0 : zInv m0) (ha0 : 0 ≤ a0 ∧ a0 ≤ 10) (ha1 : (-2147483648) ≤ a1 ∧ a1 ≤ 2147483647) : zC E d 96 [(2, 63), (0, a0), (0, a1)] m0 (fun v m' => v = (9, 0) ∧ zInv m' ∧ zFr W_96 m0 m') := (gr_96 E d) m0 a0 a1 hd hI0 ha0 ha1

abbrev W_97 : List (Nat × Nat) := [(63, 0), (64, 1000), (65, 1000), (66, 1000), (67, 1000), (68, 1000)]
set_option maxHeartbeats 8000000 in
theorem th_97 {E : zE} {d : Nat} {m0 : zM} (hd : 15 ≤ d) (hI0 : zInv m0) : zC E d 97 [(2, 63)] m0 (fun v m' => v = (9, 0) ∧ zInv m' ∧ zFr W_97 m0 m') := by
  have hF0 : zFr W_97 m0 m0 := zFr.rfl
  generalize hQ : (fun (v : zV) (m' : zM) => v = (9, 0) ∧ zInv m' ∧ zFr W_97 m0 m') = Q
  show zW E d 97 0 [(2, 63)] [] m0 Q
  refine zw_7 zr_97_0 rfl ?_
  obtain ⟨f1, ef1⟩ : ∃ v, m0 1 1 = v := ⟨_, rfl⟩
  have bf1 := ib_1_1 hI0
  rw [ef1] at bf1
  obtain ⟨f2, ef2⟩ : ∃ v, m0 1 2 = v := ⟨_, rfl⟩
  have bf2 := ib_1_2 hI0
  rw [ef2] at bf2
  refine zw_C zr_97_1 (Or.inl rfl) zm_90 rfl rfl ⟨Nat.le_of_ble_eq_true rfl, Nat.le_of_ble_eq_true rfl, Nat.le_of_ble_eq_true rfl, rfl, by decide⟩ (by omega) (th_90 (d := d - 1) (by omega) hI0  (g0 := f1) (g1 := f2)  (F65 := m0 65) (F6 := m0 6) (F7 := m0 7) (F8 := m0 8) ef1 ef2 rfl rfl rfl rfl  ) ?_
  rintro _ m3 ⟨rfl, hIm3, gm3, po0_m3⟩
  have hFm3 : zFr W_97 m0 m3 := hF0.trans gm3 rfl
  have km3_1_1 : m3 1 1 = f1 := (gm3 1 1 rfl).trans ef1
  have km3_1_2 : m3 1 2 = f2 := (gm3 1 2 rfl).trans ef2
  show zW E (d) 97 4 [(2, 63)] [] m3 Q
  refine zw_7 zr_97_4 rfl ?_
  refine zw_C zr_97_5 (Or.inl rfl) zm_94 rfl rfl ⟨Nat.le_of_ble_eq_true rfl, Nat.le_of_ble_eq_true rfl, Nat.le_of_ble_eq_true rfl, rfl, by decide⟩ (by omega) (th_94 (d := d - 1) (by omega) hIm3        ) ?_
  rintro _ m4 ⟨rfl, hIm4, gm4⟩
  have hFm4 : zFr W_97 m0 m4 := hFm3.trans gm4 rfl
  have km4_1_1 : m4 1 1 = f1 := (gm4 1 1 rfl).trans km3_1_1
  have km4_1_2 : m4 1 2 = f2 := (gm4 1 2 rfl).trans km3_1_2
  show zW E (d) 97 8 [(2, 63)] [] m4 Q
  refine zw_7 zr_97_8 rfl ?_
  refine zw_push zr_97_9 ?_
  refine zw_47 (c := 63) zr_97_10 rfl ⟨rfl, by decide, rfl⟩ ?_
  intro m5 em5
  have hIm5 : zInv m5 := by rw [em5]; exact hIm4.any (by omega) rfl (by decide) (by decide)
  have hFm5 : zFr W_97 m0 m5 := by rw [em5]; exact hFm4.up rfl
  have km5_1_1 : m5 1 1 = f1 := by rw [em5, zUp_ne (by omega)]; exact km4_1_1
  have km5_1_2 : m5 1 2 = f2 := by rw [em5, zUp_ne (by omega)]; exact km4_1_2
  have km5_63_0 : m5 63 0 = (-1) := by rw [em5]; exact zUp_eq _ _ _ _
  clear em5
  refine zw_7 zr_97_13 rfl ?_
  refine zw_push zr_97_14 ?_
  refine zw_push zr_97_15 ?_
  refine zw_C zr_97_16 (Or.inl rfl) zm_96 rfl rfl ⟨Nat.le_of_ble_eq_true rfl, Nat.le_of_ble_eq_true rfl, Nat.le_of_ble_eq_true rfl, rfl, by decide⟩ (by omega) (th_96 (d := d - 1) (by omega) hIm5 (a0 := 0) (a1 := 0)      (by omega) (by omega) ) ?_
  rintro _ m6 ⟨rfl, hIm6, gm6⟩
  have hFm6 : zFr W_97 m0 m6 := hFm5.trans gm6 rfl
  have km6_1_1 : m6 1 1 = f1 := (gm6 1 1 rfl).trans km5_1_1
  have km6_1_2 : m6 1 2 = f2 := (gm6 1 2 rfl).trans km5_1_2
  show zW E (d) 97 19 [(2, 63)] [] m6 Q
  refine zw_R zr_97_19 (by decide) zm_97 (v := (9, 0)) rfl ?_
  rw [← hQ]; exact ⟨rfl, hIm6, hFm6⟩

abbrev W_125 : List (Nat × Nat) := [(63, 0), (64, 1000), (65, 1000), (66, 1000), (67, 1000), (68, 1000)]
set_option maxHeartbeats 8000000 in
theorem th_125 {E : zE} {d : Nat} {m0 : zM} {a0 : Int} (hd : 16 ≤ d) (hI0 : zInv m0) (ha0 : (-2147483648) ≤ a0 ∧ a0 ≤ 2147483647) : zC E d 125 [(2, 0), (0, a0)] m0 (fun v m' => ∃ r : Int, v = (0, r) ∧ (-2147483648) ≤ r ∧ r ≤ 2147483647 ∧ zInv m' ∧ zFr W_125 m0 m') := by
  have hF0 : zFr W_125 m0 m0 := zFr.rfl
  generalize hQ : (fun (v : zV) (m' : zM) => ∃ r : Int, v = (0, r) ∧ (-2147483648) ≤ r ∧ r ≤ 2147483647 ∧ zInv m' ∧ zFr W_125 m0 m') = Q
  show zW E d 125 0 [(2, 0), (0, a0)] [] m0 Q
  refine zw_3 zr_125_0 rfl ?_
  refine zw_push zr_125_1 ?_
  refine zw_41_1 zr_125_2 ?_ ?_
  · intro h1
    refine zw_7 zr_125_19 rfl ?_
    refine zw_46r (s := 63) zr_125_20 rfl rfl rfl rfl ?_
    refine zw_C zr_125_23 (Or.inl rfl) zm_97 rfl rfl ⟨Nat.le_of_ble_eq_true rfl, Nat.le_of_ble_eq_true rfl, Nat.le_of_ble_eq_true rfl, rfl, by decide⟩ (by omega) (th_97 (d := d - 1) (by omega) hI0        ) ?_
    rintro _ m2 ⟨rfl, hIm2, gm2⟩
    have hFm2 : zFr W_125 m0 m2 := hF0.trans gm2 rfl
    show zW E (d) 125 26 [(2, 0), (0, a0)] [] m2 Q
    refine zw_3 zr_125_26 rfl ?_
    refine zw_push zr_125_27 ?_
    refine zw_41_4 zr_125_28 ?_ ?_
    · intro h3; omega
    · intro h4
      refine zw_7 zr_125_31 rfl ?_
      refine zw_46r (s := 63) zr_125_32 rfl rfl rfl rfl ?_
      obtain ⟨f5, ef5⟩ : ∃ v, m2 63 0 = v := ⟨_, rfl⟩
      have bf5 := hIm2.fi (c := 63) (k := 0) rfl
      rw [ef5] at bf5
      refine zw_46i zr_125_35 ef5 rfl rfl rfl ?_
      refine zw_42 zr_125_38 ?_
      refine zw_R zr_125_50 (by decide) zm_125 (v := (0, f5)) rfl ?_
      rw [← hQ]; exact ⟨_, rfl, by omega, by omega, hIm2, hFm2⟩
  · intro h6
    refine zw_7 zr_125_5 rfl ?_
    refine zw_46r (s := 1) zr_125_6 rfl rfl rfl rfl ?_
    refine zw_3 zr_125_9 rfl ?_
    refine zw_C zr_125_10 (Or.inl rfl) zm_49 rfl rfl ⟨Nat.le_of_ble_eq_true rfl, Nat.le_of_ble_eq_true rfl, Nat.le_of_ble_eq_true rfl, rfl, by decide⟩ (by omega) (P := (fun v m' => zW E (d) 125 13 [(2, 0), (0, a0)] (if v.1 = 9 then [] else v :: []) m' Q)) ?_ (fun _ _ h => h)
    generalize hQ1 : (fun v m' => zW E (d) 125 13 [(2, 0), (0, a0)] (if v.1 = 9 then [] else v :: []) m' Q) = Q1
    show zW E (d - 1) 49 0 [(2, 1), (0, a0)] [] m0 Q1
    refine zw_3 zr_49_0 rfl ?_
    refine zw_40_0 zr_49_1 ?_ ?_
    · intro h7
      refine zw_push zr_49_16 ?_
      refine zw_R zr_49_17 (by decide) zm_49 (v := (0, 0)) (zRetB (by omega)) ?_
      rw [← hQ1]
      show zW E (d) 125 13 [(2, 0), (0, a0)] [(0, 0)] m0 Q
      refine zw_40_4 zr_125_13 ?_ ?_
      · intro h8; omega
      · intro h9
        refine zw_push zr_125_16 ?_
        refine zw_R zr_125_18 (by decide) zm_125 (v := (0, (-2))) rfl ?_
        rw [← hQ]; exact ⟨_, rfl, by omega, by omega, hI0, hF0⟩
    · intro h10
      refine zw_3 zr_49_4 rfl ?_
      refine zw_7 zr_49_5 rfl ?_
      obtain ⟨f11, ef11⟩ : ∃ v, m0 1 0 = v := ⟨_, rfl⟩
      have bf11 := ib_1_0 hI0
      rw [ef11] at bf11
      refine zw_46i zr_49_6 ef11 rfl rfl rfl ?_
      refine zw_41_3 zr_49_9 ?_ ?_
      · intro h12
        refine zw_push zr_49_16 ?_
        refine zw_R zr_49_17 (by decide) zm_49 (v := (0, 0)) (zRetB (by omega)) ?_
        rw [← hQ1]
        show zW E (d) 125 13 [(2, 0), (0, a0)] [(0, 0)] m0 Q
        refine zw_40_4 zr_125_13 ?_ ?_
        · intro h13; omega
        · intro h14
          refine zw_push zr_125_16 ?_
          refine zw_R zr_125_18 (by decide) zm_125 (v := (0, (-2))) rfl ?_
          rw [← hQ]; exact ⟨_, rfl, by omega, by omega, hI0, hF0⟩
      · intro h15
        refine zw_push zr_49_12 ?_
        refine zw_42 zr_49_13 ?_
        refine zw_R zr_49_17 (by decide) zm_49 (v := (0, 1)) (zRetB (by omega)) ?_
        rw [← hQ1]
        show zW E (d) 125 13 [(2, 0), (0, a0)] [(0, 1)] m0 Q
        refine zw_40_4 zr_125_13 ?_ ?_
        · intro h16
          refine zw_7 zr_125_19 rfl ?_
          refine zw_46r (s := 63) zr_125_20 rfl rfl rfl rfl ?_
          refine zw_C zr_125_23 (Or.inl rfl) zm_97 rfl rfl ⟨Nat.le_of_ble_eq_true rfl, Nat.le_of_ble_eq_true rfl, Nat.le_of_ble_eq_true rfl, rfl, by decide⟩ (by omega) (th_97 (d := d - 1) (by omega) hI0        ) ?_
          rintro _ m17 ⟨rfl, hIm17, gm17⟩
          have hFm17 : zFr W_125 m0 m17 := hF0.trans gm17 rfl
          have km17_1_0 : m17 1 0 = f11 := (gm17 1 0 rfl).trans ef11
          show zW E (d) 125 26 [(2, 0), (0, a0)] [] m17 Q
          refine zw_3 zr_125_26 rfl ?_
          refine zw_push zr_125_27 ?_
          refine zw_41_4 zr_125_28 ?_ ?_
          · intro h18
            refine zw_7 zr_125_41 rfl ?_
            refine zw_46r (s := 63) zr_125_42 rfl rfl rfl rfl ?_
            refine zw_46r (s := 64) zr_125_45 rfl rfl rfl rfl ?_
            refine zw_3 zr_125_48 rfl ?_
            refine zw_48 (c := 64) (len := 10) zr_125_49 rfl rfl (by omega) (by omega) ?_
            intro x19 ex19
            have bx19 := hIm17.ra (c := 64) (len := 10) (k := (a0).toNat) rfl (by omega)
            rw [← ex19] at bx19
            clear ex19
            refine zw_R zr_125_50 (by decide) zm_125 (v := (0, x19)) rfl ?_
            rw [← hQ]; exact ⟨_, rfl, by omega, by omega, hIm17, hFm17⟩
          · intro h20; omega
        · intro h21; omega

abbrev W_199 : List (Nat × Nat) := [(83, 1000), (84, 1000)]
set_option maxHeartbeats 8000000 in
theorem th_199 {E : zE} {d : Nat} {m0 : zM} {a0 : Int} (hd : 3 ≤ d) (hI0 : zInv m0) (ha0 : (-2147483648) ≤ a0 ∧ a0 ≤ 2147483647) : zC E d 199 [(2, 69), (0, a0)] m0 (fun v m' => ∃ r : Int, v = (0, r) ∧ (-2) ≤ r ∧ r ≤ 2147483647 ∧ zInv m' ∧ zFr W_199 m0 m') := by
  have hF0 : zFr W_199 m0 m0 := zFr.rfl
  generalize hQ : (fun (v : zV) (m' : zM) => ∃ r : Int, v = (0, r) ∧ (-2) ≤ r ∧ r ≤ 2147483647 ∧ zInv m' ∧ zFr W_199 m0 m') = Q
  show zW E d 199 0 [(2, 69), (0, a0), (9, 0), (9, 0), (9, 0), (9, 0), (9, 0), (9, 0), (9, 0), (9, 0)] [] m0 Q
  refine zw_3 zr_199_0 rfl ?_
  refine zw_push zr_199_1 ?_
  refine zw_41_1 zr_199_2 ?_ ?_
  · intro h1
    refine zw_push zr_199_16 ?_
    refine zw_9 (L' := [(2, 69), (0, a0), (0, 0), (9, 0), (9, 0), (9, 0), (9, 0), (9, 0), (9, 0), (9, 0)]) zr_199_17 (Nat.le_of_ble_eq_true rfl) rfl ?_
    have lp18_4 : ∀ (nlp18_4 : Nat) (i2 : Int) (m3 : zM), zInv m3 → zFr W_199 m0 m3 → 0 ≤ i2 → i2 ≤ 100 → (100 - i2).toNat < nlp18_4 → zW E (d) 199 18 [(2, 69), (0, a0), (0, i2), (9, 0), (9, 0), (9, 0), (9, 0), (9, 0), (9, 0), (9, 0)] [] m3 Q := by
      intro nlp18_4
      induction nlp18_4 with
      | zero =>
        intros
        exact absurd (by assumption : _ < 0) (Nat.not_lt_zero _)
      | succ nlp18_4 ihlp18_4 =>
        intro i2 m3 hIm3 hFm3 li2 ui2 hmlp18_4
        refine zw_3 zr_199_18 rfl ?_
        refine zw_push zr_199_19 ?_
        refine zw_41_3 zr_199_21 ?_ ?_
        · intro h6
          refine zw_push zr_199_37 ?_
          refine zw_9 (L' := [(2, 69), (0, a0), (0, 0), (9, 0), (9, 0), (9, 0), (9, 0), (9, 0), (9, 0), (9, 0)]) zr_199_38 (Nat.le_of_ble_eq_true rfl) rfl ?_
          have lp39_9 : ∀ (nlp39_9 : Nat) (i7 : Int) (m8 : zM), zInv m8 → zFr W_199 m0 m8 → 0 ≤ i7 → i7 ≤ 60 → (60 - i7).toNat < nlp39_9 → zW E (d) 199 39 [(2, 69), (0, a0), (0, i7), (9, 0), (9, 0), (9, 0), (9, 0), (9, 0), (9, 0), (9, 0)] [] m8 Q := by
            intro nlp39_9
            induction nlp39_9 with
            | zero =>
              intros
              exact absurd (by assumption : _ < 0) (Nat.not_lt_zero _)
            | succ nlp39_9 ihlp39_9 =>
              intro i7 m8 hIm8 hFm8 li7 ui7 hmlp39_9
              refine zw_3 zr_199_39 rfl ?_
              refine zw_7 zr_199_40 rfl ?_
              refine zw_C zr_199_41 (Or.inl rfl) zm_142 rfl rfl ⟨Nat.le_of_ble_eq_true rfl, Nat.le_of_ble_eq_true rfl, Nat.le_of_ble_eq_true rfl, rfl, by decide⟩ (by omega) (P := (fun v m' => zW E (d) 199 44 [(2, 69), (0, a0), (0, i7), (9, 0), (9, 0), (9, 0), (9, 0), (9, 0), (9, 0), (9, 0)] (if v.1 = 9 then [(0, i7)] else v :: [(0, i7)]) m' Q)) ?_ (fun _ _ h => h)
              generalize hQ1 : (fun v m' => zW E (d) 199 44 [(2, 69), (0, a0), (0, i7), (9, 0), (9, 0), (9, 0), (9, 0), (9, 0), (9, 0), (9, 0)] (if v.1 = 9 then [(0, i7)] else v :: [(0, i7)]) m' Q) = Q1
              show zW E (d - 1) 142 0 [(2, 69)] [] m8 Q1
              refine zw_7 zr_142_0 rfl ?_
              refine zw_46r (s := 70) zr_142_1 rfl rfl rfl rfl ?_
              refine zw_push zr_142_4 ?_
              obtain ⟨f11, ef11⟩ : ∃ v, m8 70 823 = v := ⟨_, rfl⟩
              have bf11 : 0 ≤ m8 70 823 ∧ m8 70 823 ≤ 60 := ib_70_meetings hIm8 (by omega)
              rw [ef11] at bf11
              refine zw_48k (c := 70) (len := 826) zr_142_7 rfl rfl (by omega) (by omega) (show (823 : Int).toNat = 823 by omega) ef11 ?_
              refine zw_R zr_142_8 (by decide) zm_142 (v := (0, f11)) rfl ?_
              rw [← hQ1]
              show zW E (d) 199 44 [(2, 69), (0, a0), (0, i7), (9, 0), (9, 0), (9, 0), (9, 0), (9, 0), (9, 0), (9, 0)] [(0, f11), (0, i7)] m8 Q
              refine zw_41_3 zr_199_44 ?_ ?_
              · intro h12
                refine zw_push zr_199_127 ?_
                refine zw_9 (L' := [(2, 69), (0, a0), (0, 1), (9, 0), (9, 0), (9, 0), (9, 0), (9, 0), (9, 0), (9, 0)]) zr_199_128 (Nat.le_of_ble_eq_true rfl) rfl ?_
                refine zw_push zr_199_129 ?_
                refine zw_9 (L' := [(2, 69), (0, a0), (0, 1), (0, 0), (9, 0), (9, 0), (9, 0), (9, 0), (9, 0), (9, 0)]) zr_199_130 (Nat.le_of_ble_eq_true rfl) rfl ?_
                have lp131_16 : ∀ (nlp131_16 : Nat) (i13 i14 : Int) (m15 : zM), zInv m15 → zFr W_199 m0 m15 → m15 70 823 = f11 → (-2147483648) ≤ i13 → i13 ≤ 2147483647 → 0 ≤ i14 → i14 ≤ 10 → (10 - i14).toNat < nlp131_16 → zW E (d) 199 131 [(2, 69), (0, a0), (0, i13), (0, i14), (9, 0), (9, 0), (9, 0), (9, 0), (9, 0), (9, 0)] [] m15 Q := by
                  intro nlp131_16
                  induction nlp131_16 with
                  | zero =>
                    intros
                    exact absurd (by assumption : _ < 0) (Nat.not_lt_zero _)
                  | succ nlp131_16 ihlp131_16 =>
                    intro i13 i14 m15 hIm15 hFm15 km15_70_823 li13 ui13 li14 ui14 hmlp131_16
                    refine zw_3 zr_199_131 rfl ?_
                    refine zw_7 zr_199_132 rfl ?_
                    refine zw_C zr_199_133 (Or.inl rfl) zm_141 rfl rfl ⟨Nat.le_of_ble_eq_true rfl, Nat.le_of_ble_eq_true rfl, Nat.le_of_ble_eq_true rfl, rfl, by decide⟩ (by omega) (P := (fun v m' => zW E (d) 199 136 [(2, 69), (0, a0), (0, i13), (0, i14), (9, 0), (9, 0), (9, 0), (9, 0), (9, 0), (9, 0)] (if v.1 = 9 then [(0, i14)] else v :: [(0, i14)]) m' Q)) ?_ (fun _ _ h => h)
                    generalize hQ1 : (fun v m' => zW E (d) 199 136 [(2, 69), (0, a0), (0, i13), (0, i14), (9, 0), (9, 0), (9, 0), (9, 0), (9, 0), (9, 0)] (if v.1 = 9 then [(0, i14)] else v :: [(0, i14)]) m' Q) = Q1
                    show zW E (d - 1) 141 0 [(2, 69)] [] m15 Q1
                    refine zw_7 zr_141_0 rfl ?_
                    refine zw_46r (s := 70) zr_141_1 rfl rfl rfl rfl ?_
                    refine zw_push zr_141_4 ?_
                    obtain ⟨f18, ef18⟩ : ∃ v, m15 70 822 = v := ⟨_, rfl⟩
                    have bf18 : 0 ≤ m15 70 822 ∧ m15 70 822 ≤ 10 := ib_70_players hIm15 (by omega)
                    rw [ef18] at bf18
                    refine zw_48k (c := 70) (len := 826) zr_141_7 rfl rfl (by omega) (by omega) (show (822 : Int).toNat = 822 by omega) ef18 ?_
                    refine zw_R zr_141_8 (by decide) zm_141 (v := (0, f18)) rfl ?_
                    rw [← hQ1]
                    show zW E (d) 199 136 [(2, 69), (0, a0), (0, i13), (0, i14), (9, 0), (9, 0), (9, 0), (9, 0), (9, 0), (9, 0)] [(0, f18), (0, i14)] m15 Q
                    refine zw_41_3 zr_199_136 ?_ ?_
                    · intro h19
                      refine zw_push zr_199_149 ?_
                      refine zw_9 (L' := [(2, 69), (0, a0), (0, i13), (0, 0), (9, 0), (9, 0), (9, 0), (9, 0), (9, 0), (9, 0)]) zr_199_150 (Nat.le_of_ble_eq_true rfl) rfl ?_
                      refine zw_push zr_199_151 ?_
                      refine zw_10 (L' := [(2, 69), (0, a0), (0, i13), (0, 0), (0, (-1)), (9, 0), (9, 0), (9, 0), (9, 0), (9, 0)]) zr_199_152 (Nat.le_of_ble_eq_true rfl) rfl ?_
                      refine zw_push zr_199_154 ?_
                      refine zw_10 (L' := [(2, 69), (0, a0), (0, i13), (0, 0), (0, (-1)), (0, 0), (9, 0), (9, 0), (9, 0), (9, 0)]) zr_199_155 (Nat.le_of_ble_eq_true rfl) rfl ?_
                      have lp157_24 : ∀ (nlp157_24 : Nat) (i20 i21 i22 : Int) (m23 : zM), zInv m23 → zFr W_199 m0 m23 → m23 70 823 = f11 → m23 70 822 = f18 → 0 ≤ i20 → i20 ≤ 2147483647 → (-1) ≤ i21 → i21 ≤ 2147483647 → 0 ≤ i22 → i22 ≤ 2147483647 → (2147483647 - i22).toNat < nlp157_24 → zW E (d) 199 157 [(2, 69), (0, a0), (0, i13), (0, i20), (0, i21), (0, i22), (9, 0), (9, 0), (9, 0), (9, 0)] [] m23 Q := by
                        intro nlp157_24
                        induction nlp157_24 with
                        | zero =>
                          intros
                          exact absurd (by assumption : _ < 0) (Nat.not_lt_zero _)
                        | succ nlp157_24 ihlp157_24 =>
                          intro i20 i21 i22 m23 hIm23 hFm23 km23_70_823 km23_70_822 li20 ui20 li21 ui21 li22 ui22 hmlp157_24
                          refine zw_4 zr_199_157 rfl ?_
                          refine zw_3 zr_199_159 rfl ?_
                          refine zw_41_3 zr_199_160 ?_ ?_
                          · intro h26
                            refine zw_3 zr_199_321 rfl ?_
                            refine zw_push zr_199_322 ?_
                            refine zw_41_4 zr_199_323 ?_ ?_
                            · intro h27; omega
                            · intro h28
                              refine zw_4 zr_199_326 rfl ?_
                              refine zw_R zr_199_328 (by decide) zm_199 (v := (0, i21)) rfl ?_
                              rw [← hQ]; exact ⟨_, rfl, by omega, by omega, hIm23, hFm23⟩
                          · intro h29
                            refine zw_4 zr_199_163 rfl ?_
                            refine zw_10 (L' := [(2, 69), (0, a0), (0, i13), (0, i20), (0, i21), (0, i22), (0, i22), (9, 0), (9, 0), (9, 0)]) zr_199_165 (Nat.le_of_ble_eq_true rfl) rfl ?_
                            refine zw_7 zr_199_167 rfl ?_
                            refine zw_C zr_199_168 (Or.inl rfl) zm_141 rfl rfl ⟨Nat.le_of_ble_eq_true rfl, Nat.le_of_ble_eq_true rfl, Nat.le_of_ble_eq_true rfl, rfl, by decide⟩ (by omega) (P := (fun v m' => zW E (d) 199 171 [(2, 69), (0, a0), (0, i13), (0, i20), (0, i21), (0, i22), (0, i22), (9, 0), (9, 0), (9, 0)] (if v.1 = 9 then [] else v :: []) m' Q)) ?_ (fun _ _ h => h)
                            generalize hQ1 : (fun v m' => zW E (d) 199 171 [(2, 69), (0, a0), (0, i13), (0, i20), (0, i21), (0, i22), (0, i22), (9, 0), (9, 0), (9, 0)] (if v.1 = 9 then [] else v :: []) m' Q) = Q1
                            show zW E (d - 1) 141 0 [(2, 69)] [] m23 Q1
                            refine zw_7 zr_141_0 rfl ?_
                            refine zw_46r (s := 70) zr_141_1 rfl rfl rfl rfl ?_
                            refine zw_push zr_141_4 ?_
                            refine zw_48k (c := 70) (len := 826) zr_141_7 rfl rfl (by omega) (by omega) (show (822 : Int).toNat = 822 by omega) km23_70_822 ?_
                            refine zw_R zr_141_8 (by decide) zm_141 (v := (0, f18)) rfl ?_
                            rw [← hQ1]
                            show zW E (d) 199 171 [(2, 69), (0, a0), (0, i13), (0, i20), (0, i21), (0, i22), (0, i22), (9, 0), (9, 0), (9, 0)] [(0, f18)] m23 Q
                            refine zw_push zr_199_171 ?_
                            refine zw_17 zr_199_172 (by omega) ?_
                            refine zw_10 (L' := [(2, 69), (0, a0), (0, i13), (0, i20), (0, i21), (0, i22), (0, i22), (0, (f18 - 1)), (9, 0), (9, 0)]) zr_199_173 (Nat.le_of_ble_eq_true rfl) rfl ?_
                            have lp175_33 : ∀ (nlp175_33 : Nat) (i30 i31 : Int) (m32 : zM), zInv m32 → zFr W_199 m0 m32 → m32 70 823 = f11 → m32 70 822 = f18 → 0 ≤ i30 → i30 ≤ 2147483647 → (-1) ≤ i31 → i31 ≤ 9 → (i31 - (-1)).toNat < nlp175_33 → zW E (d) 199 175 [(2, 69), (0, a0), (0, i13), (0, i20), (0, i21), (0, i22), (0, i30), (0, i31), (9, 0), (9, 0)] [] m32 Q := by
                              intro nlp175_33
                              induction nlp175_33 with
                              | zero =>
                                intros
                                exact absurd (by assumption : _ < 0) (Nat.not_lt_zero _)
                              | succ nlp175_33 ihlp175_33 =>
                                intro i30 i31 m32 hIm32 hFm32 km32_70_823 km32_70_822 li30 ui30 li31 ui31 hmlp175_33
                                refine zw_4 zr_199_175 rfl ?_
                                refine zw_40_0 zr_199_177 ?_ ?_
                                · intro h35
                                  refine zw_push zr_199_203 ?_
                                  refine zw_10 (L' := [(2, 69), (0, a0), (0, i13), (0, i20), (0, i21), (0, i22), (0, i30), (0, 0), (9, 0), (9, 0)]) zr_199_204 (Nat.le_of_ble_eq_true rfl) rfl ?_
                                  refine zw_push zr_199_206 ?_
                                  refine zw_10 (L' := [(2, 69), (0, a0), (0, i13), (0, i20), (0, i21), (0, i22), (0, i30), (0, 0), (0, 0), (9, 0)]) zr_199_207 (Nat.le_of_ble_eq_true rfl) rfl ?_
                                  have lp209_38 : ∀ (nlp209_38 : Nat) (i36 i37 : Int), (-2147483648) ≤ i36 → i36 ≤ 2147483647 → 0 ≤ i37 → i37 ≤ 10 → (10 - i37).toNat < nlp209_38 → zW E (d) 199 209 [(2, 69), (0, a0), (0, i13), (0, i20), (0, i21), (0, i22), (0, i30), (0, i36), (0, i37), (9, 0)] [] m32 Q := by
                                    intro nlp209_38
                                    induction nlp209_38 with
                                    | zero =>
                                      intros
                                      exact absurd (by assumption : _ < 0) (Nat.not_lt_zero _)
                                    | succ nlp209_38 ihlp209_38 =>
                                      intro i36 i37 li36 ui36 li37 ui37 hmlp209_38
                                      refine zw_4 zr_199_209 rfl ?_
                                      refine zw_7 zr_199_211 rfl ?_
                                      refine zw_C zr_199_212 (Or.inl rfl) zm_141 rfl rfl ⟨Nat.le_of_ble_eq_true rfl, Nat.le_of_ble_eq_true rfl, Nat.le_of_ble_eq_true rfl, rfl, by decide⟩ (by omega) (P := (fun v m' => zW E (d) 199 215 [(2, 69), (0, a0), (0, i13), (0, i20), (0, i21), (0, i22), (0, i30), (0, i36), (0, i37), (9, 0)] (if v.1 = 9 then [(0, i37)] else v :: [(0, i37)]) m' Q)) ?_ (fun _ _ h => h)
                                      generalize hQ1 : (fun v m' => zW E (d) 199 215 [(2, 69), (0, a0), (0, i13), (0, i20), (0, i21), (0, i22), (0, i30), (0, i36), (0, i37), (9, 0)] (if v.1 = 9 then [(0, i37)] else v :: [(0, i37)]) m' Q) = Q1
                                      show zW E (d - 1) 141 0 [(2, 69)] [] m32 Q1
                                      refine zw_7 zr_141_0 rfl ?_
                                      refine zw_46r (s := 70) zr_141_1 rfl rfl rfl rfl ?_
                                      refine zw_push zr_141_4 ?_
                                      refine zw_48k (c := 70) (len := 826) zr_141_7 rfl rfl (by omega) (by omega) (show (822 : Int).toNat = 822 by omega) km32_70_822 ?_
                                      refine zw_R zr_141_8 (by decide) zm_141 (v := (0, f18)) rfl ?_
                                      rw [← hQ1]
                                      show zW E (d) 199 215 [(2, 69), (0, a0), (0, i13), (0, i20), (0, i21), (0, i22), (0, i30), (0, i36), (0, i37), (9, 0)] [(0, f18), (0, i37)] m32 Q
                                      refine zw_41_3 zr_199_215 ?_ ?_
                                      · intro h40
                                        refine zw_4 zr_199_285 rfl ?_
                                        refine zw_4 zr_199_287 rfl ?_
                                        refine zw_41_5 zr_199_289 ?_ ?_
                                        · intro h41
                                          refine zw_3 zr_199_297 rfl ?_
                                          refine zw_9 (L' := [(2, 69), (0, a0), (0, i13), (0, i20), (0, i21), (0, i22), (0, i30), (0, i36), (0, i37), (9, 0)]) zr_199_298 (Nat.le_of_ble_eq_true rfl) rfl ?_
                                          refine zw_4 zr_199_299 rfl ?_
                                          refine zw_4 zr_199_301 rfl ?_
                                          refine zw_41_5 zr_199_303 ?_ ?_
                                          · intro h42
                                            refine zw_4 zr_199_311 rfl ?_
                                            refine zw_10 (L' := [(2, 69), (0, a0), (0, i13), (0, i20), (0, i21), (0, i22), (0, i30), (0, i36), (0, i37), (9, 0)]) zr_199_313 (Nat.le_of_ble_eq_true rfl) rfl ?_
                                            refine zw_15 (c := 1) (L' := [(2, 69), (0, a0), (0, i13), (0, i20), (0, i21), (0, (i22 + 1)), (0, i30), (0, i36), (0, i37), (9, 0)]) zr_199_315 rfl (by decide) (by omega) rfl ?_
                                            refine zw_42 zr_199_318 ?_
                                            exact zw_less (L := [(2, 69), (0, a0), (0, i13), (0, i20), (0, i21), (0, (i22 + 1)), (9, 0), (9, 0), (9, 0), (9, 0)]) ⟨Or.inr rfl, Or.inr rfl, Or.inr rfl, Or.inr rfl, Or.inr rfl, Or.inr rfl, Or.inl rfl, Or.inl rfl, Or.inl rfl, Or.inl rfl, trivial⟩ (ihlp157_24 (i20) (i21) ((i22 + 1)) m32 hIm32 hFm32  km32_70_823 km32_70_822 (by omega) (by omega) (by omega) (by omega) (by omega) (by omega)  (by omega))
                                          · intro h43
                                            refine zw_4 zr_199_306 rfl ?_
                                            refine zw_42 zr_199_308 ?_
                                            refine zw_10 (L' := [(2, 69), (0, a0), (0, i13), (0, i20), (0, i36), (0, i22), (0, i30), (0, i36), (0, i37), (9, 0)]) zr_199_313 (Nat.le_of_ble_eq_true rfl) rfl ?_
                                            refine zw_15 (c := 1) (L' := [(2, 69), (0, a0), (0, i13), (0, i20), (0, i36), (0, (i22 + 1)), (0, i30), (0, i36), (0, i37), (9, 0)]) zr_199_315 rfl (by decide) (by omega) rfl ?_
                                            refine zw_42 zr_199_318 ?_
                                            exact zw_less (L := [(2, 69), (0, a0), (0, i13), (0, i20), (0, i36), (0, (i22 + 1)), (9, 0), (9, 0), (9, 0), (9, 0)]) ⟨Or.inr rfl, Or.inr rfl, Or.inr rfl, Or.inr rfl, Or.inr rfl, Or.inr rfl, Or.inl rfl, Or.inl rfl, Or.inl rfl, Or.inl rfl, trivial⟩ (ihlp157_24 (i20) (i36) ((i22 + 1)) m32 hIm32 hFm32  km32_70_823 km32_70_822 (by omega) (by omega) (by omega) (by omega) (by omega) (by omega)  (by omega))
                                        · intro h44
                                          refine zw_4 zr_199_292 rfl ?_
                                          refine zw_42 zr_199_294 ?_
                                          refine zw_9 (L' := [(2, 69), (0, a0), (0, i13), (0, i22), (0, i21), (0, i22), (0, i30), (0, i36), (0, i37), (9, 0)]) zr_199_298 (Nat.le_of_ble_eq_true rfl) rfl ?_
                                          refine zw_4 zr_199_299 rfl ?_
                                          refine zw_4 zr_199_301 rfl ?_
                                          refine zw_41_5 zr_199_303 ?_ ?_
                                          · intro h45
                                            refine zw_4 zr_199_311 rfl ?_
                                            refine zw_10 (L' := [(2, 69), (0, a0), (0, i13), (0, i22), (0, i21), (0, i22), (0, i30), (0, i36), (0, i37), (9, 0)]) zr_199_313 (Nat.le_of_ble_eq_true rfl) rfl ?_
                                            refine zw_15 (c := 1) (L' := [(2, 69), (0, a0), (0, i13), (0, i22), (0, i21), (0, (i22 + 1)), (0, i30), (0, i36), (0, i37), (9, 0)]) zr_199_315 rfl (by decide) (by omega) rfl ?_
                                            refine zw_42 zr_199_318 ?_
                                            exact zw_less (L := [(2, 69), (0, a0), (0, i13), (0, i22), (0, i21), (0, (i22 + 1)), (9, 0), (9, 0), (9, 0), (9, 0)]) ⟨Or.inr rfl, Or.inr rfl, Or.inr rfl, Or.inr rfl, Or.inr rfl, Or.inr rfl, Or.inl rfl, Or.inl rfl, Or.inl rfl, Or.inl rfl, trivial⟩ (ihlp157_24 (i22) (i21) ((i22 + 1)) m32 hIm32 hFm32  km32_70_823 km32_70_822 (by omega) (by omega) (by omega) (by omega) (by omega) (by omega)  (by omega))
                                          · intro h46
                                            refine zw_4 zr_199_306 rfl ?_
                                            refine zw_42 zr_199_308 ?_
                                            refine zw_10 (L' := [(2, 69), (0, a0), (0, i13), (0, i22), (0, i36), (0, i22), (0, i30), (0, i36), (0, i37), (9, 0)]) zr_199_313 (Nat.le_of_ble_eq_true rfl) rfl ?_
                                            refine zw_15 (c := 1) (L' := [(2, 69), (0, a0), (0, i13), (0, i22), (0, i36), (0, (i22 + 1)), (0, i30), (0, i36), (0, i37), (9, 0)]) zr_199_315 rfl (by decide) (by omega) rfl ?_
                                            refine zw_42 zr_199_318 ?_
                                            exact zw_less (L := [(2, 69), (0, a0), (0, i13), (0, i22), (0, i36), (0, (i22 + 1)), (9, 0), (9, 0), (9, 0), (9, 0)]) ⟨Or.inr rfl, Or.inr rfl, Or.inr rfl, Or.inr rfl, Or.inr rfl, Or.inr rfl, Or.inl rfl, Or.inl rfl, Or.inl rfl, Or.inl rfl, trivial⟩ (ihlp157_24 (i22) (i36) ((i22 + 1)) m32 hIm32 hFm32  km32_70_823 km32_70_822 (by omega) (by omega) (by omega) (by omega) (by omega) (by omega)  (by omega))
                                      · intro h47
                                        refine zw_push zr_199_218 ?_
                                        refine zw_10 (L' := [(2, 69), (0, a0), (0, i13), (0, i20), (0, i21), (0, i22), (0, i30), (0, i36), (0, i37), (0, 0)]) zr_199_219 (Nat.le_of_ble_eq_true rfl) rfl ?_
                                        have lp221_50 : ∀ (nlp221_50 : Nat) (i48 i49 : Int), (-2147483648) ≤ i48 → i48 ≤ 2147483647 → 0 ≤ i49 → i49 ≤ 10 → (10 - i49).toNat < nlp221_50 → zW E (d) 199 221 [(2, 69), (0, a0), (0, i13), (0, i20), (0, i21), (0, i22), (0, i30), (0, i48), (0, i37), (0, i49)] [] m32 Q := by
                                          intro nlp221_50
                                          induction nlp221_50 with
                                          | zero =>
                                            intros
                                            exact absurd (by assumption : _ < 0) (Nat.not_lt_zero _)
                                          | succ nlp221_50 ihlp221_50 =>
                                            intro i48 i49 li48 ui48 li49 ui49 hmlp221_50
                                            refine zw_4 zr_199_221 rfl ?_
                                            refine zw_7 zr_199_223 rfl ?_
                                            refine zw_C zr_199_224 (Or.inl rfl) zm_141 rfl rfl ⟨Nat.le_of_ble_eq_true rfl, Nat.le_of_ble_eq_true rfl, Nat.le_of_ble_eq_true rfl, rfl, by decide⟩ (by omega) (P := (fun v m' => zW E (d) 199 227 [(2, 69), (0, a0), (0, i13), (0, i20), (0, i21), (0, i22), (0, i30), (0, i48), (0, i37), (0, i49)] (if v.1 = 9 then [(0, i49)] else v :: [(0, i49)]) m' Q)) ?_ (fun _ _ h => h)
                                            generalize hQ1 : (fun v m' => zW E (d) 199 227 [(2, 69), (0, a0), (0, i13), (0, i20), (0, i21), (0, i22), (0, i30), (0, i48), (0, i37), (0, i49)] (if v.1 = 9 then [(0, i49)] else v :: [(0, i49)]) m' Q) = Q1
                                            show zW E (d - 1) 141 0 [(2, 69)] [] m32 Q1
                                            refine zw_7 zr_141_0 rfl ?_
                                            refine zw_46r (s := 70) zr_141_1 rfl rfl rfl rfl ?_
                                            refine zw_push zr_141_4 ?_
                                            refine zw_48k (c := 70) (len := 826) zr_141_7 rfl rfl (by omega) (by omega) (show (822 : Int).toNat = 822 by omega) km32_70_822 ?_
                                            refine zw_R zr_141_8 (by decide) zm_141 (v := (0, f18)) rfl ?_
                                            rw [← hQ1]
                                            show zW E (d) 199 227 [(2, 69), (0, a0), (0, i13), (0, i20), (0, i21), (0, i22), (0, i30), (0, i48), (0, i37), (0, i49)] [(0, f18), (0, i49)] m32 Q
                                            refine zw_41_3 zr_199_227 ?_ ?_
                                            · intro h52
                                              refine zw_15 (c := 1) (L' := [(2, 69), (0, a0), (0, i13), (0, i20), (0, i21), (0, i22), (0, i30), (0, i48), (0, (i37 + 1)), (0, i49)]) zr_199_279 rfl (by decide) (by omega) rfl ?_
                                              refine zw_42 zr_199_282 ?_
                                              exact zw_less (L := [(2, 69), (0, a0), (0, i13), (0, i20), (0, i21), (0, i22), (0, i30), (0, i48), (0, (i37 + 1)), (9, 0)]) ⟨Or.inr rfl, Or.inr rfl, Or.inr rfl, Or.inr rfl, Or.inr rfl, Or.inr rfl, Or.inr rfl, Or.inr rfl, Or.inr rfl, Or.inl rfl, trivial⟩ (ihlp209_38 (i48) ((i37 + 1))  (by omega) (by omega) (by omega) (by omega)  (by omega))
                                            · intro h53
                                              refine zw_4 zr_199_230 rfl ?_
                                              refine zw_7 zr_199_232 rfl ?_
                                              refine zw_46r (s := 84) zr_199_233 rfl rfl rfl rfl ?_
                                              refine zw_4 zr_199_236 rfl ?_
                                              refine zw_48 (c := 84) (len := 10) zr_199_238 rfl rfl (by omega) (by omega) ?_
                                              intro x54 ex54
                                              have bx54 := hIm32.ra (c := 84) (len := 10) (k := (i37).toNat) rfl (by omega)
                                              rw [← ex54] at bx54
                                              clear ex54
                                              refine zw_push zr_199_239 ?_
                                              refine zw_16h zr_199_240 ?_
                                              intro x55 hx55a hx55b
                                              refine zw_push zr_199_241 ?_
                                              refine zw_20h zr_199_242 (by omega) ?_
                                              intro x56 hx56a hx56b
                                              refine zw_7 zr_199_243 rfl ?_
                                              refine zw_46r (s := 84) zr_199_244 rfl rfl rfl rfl ?_
                                              refine zw_4 zr_199_247 rfl ?_
                                              refine zw_48 (c := 84) (len := 10) zr_199_249 rfl rfl (by omega) (by omega) ?_
                                              intro x57 ex57
                                              have bx57 := hIm32.ra (c := 84) (len := 10) (k := (i49).toNat) rfl (by omega)
                                              rw [← ex57] at bx57
                                              clear ex57
                                              refine zw_41_4 zr_199_250 ?_ ?_
                                              · intro h58
                                                refine zw_push zr_199_269 ?_
                                                refine zw_16 zr_199_270 (by omega) ?_
                                                refine zw_10 (L' := [(2, 69), (0, a0), (0, i13), (0, i20), (0, i21), (0, i22), (0, i30), (0, (i48 + 0)), (0, i37), (0, i49)]) zr_199_271 (Nat.le_of_ble_eq_true rfl) rfl ?_
                                                refine zw_15 (c := 1) (L' := [(2, 69), (0, a0), (0, i13), (0, i20), (0, i21), (0, i22), (0, i30), (0, (i48 + 0)), (0, i37), (0, (i49 + 1))]) zr_199_273 rfl (by decide) (by omega) rfl ?_
                                                refine zw_42 zr_199_276 ?_
                                                exact zw_less (L := [(2, 69), (0, a0), (0, i13), (0, i20), (0, i21), (0, i22), (0, i30), (0, (i48 + 0)), (0, i37), (0, (i49 + 1))]) ⟨Or.inr rfl, Or.inr rfl, Or.inr rfl, Or.inr rfl, Or.inr rfl, Or.inr rfl, Or.inr rfl, Or.inr rfl, Or.inr rfl, Or.inr rfl, trivial⟩ (ihlp221_50 ((i48 + 0)) ((i49 + 1))  (by omega) (by omega) (by omega) (by omega)  (by omega))
                                              · intro h59
                                                refine zw_7 zr_199_253 rfl ?_
                                                refine zw_46r (s := 83) zr_199_254 rfl rfl rfl rfl ?_
                                                refine zw_push zr_199_257 ?_
                                                refine zw_4 zr_199_259 rfl ?_
                                                refine zw_18 zr_199_261 (by omega) ?_
                                                refine zw_4 zr_199_262 rfl ?_
                                                refine zw_16 zr_199_264 (by omega) ?_
                                                refine zw_48 (c := 83) (len := 100) zr_199_265 rfl rfl (by omega) (by omega) ?_
                                                intro x60 ex60
                                                have bx60 := hIm32.ra (c := 83) (len := 100) (k := (((10 * i37) + i49)).toNat) rfl (by omega)
                                                rw [← ex60] at bx60
                                                clear ex60
                                                refine zw_42 zr_199_266 ?_
                                                refine zw_16h zr_199_270 ?_
                                                intro x61 hx61a hx61b
                                                refine zw_10 (L' := [(2, 69), (0, a0), (0, i13), (0, i20), (0, i21), (0, i22), (0, i30), (0, x61), (0, i37), (0, i49)]) zr_199_271 (Nat.le_of_ble_eq_true rfl) rfl ?_
                                                refine zw_15 (c := 1) (L' := [(2, 69), (0, a0), (0, i13), (0, i20), (0, i21), (0, i22), (0, i30), (0, x61), (0, i37), (0, (i49 + 1))]) zr_199_273 rfl (by decide) (by omega) rfl ?_
                                                refine zw_42 zr_199_276 ?_
                                                exact zw_less (L := [(2, 69), (0, a0), (0, i13), (0, i20), (0, i21), (0, i22), (0, i30), (0, x61), (0, i37), (0, (i49 + 1))]) ⟨Or.inr rfl, Or.inr rfl, Or.inr rfl, Or.inr rfl, Or.inr rfl, Or.inr rfl, Or.inr rfl, Or.inr rfl, Or.inr rfl, Or.inr rfl, trivial⟩ (ihlp221_50 (x61) ((i49 + 1))  (by omega) (by omega) (by omega) (by omega)  (by omega))
                                        exact lp221_50 _ (i36) (0)  (by omega) (by omega) (by omega) (by omega)  (Nat.lt_succ_self _)
                                  exact lp209_38 _ (0) (0)  (by omega) (by omega) (by omega) (by omega)  (Nat.lt_succ_self _)
                                · intro h62
                                  refine zw_7 zr_199_180 rfl ?_
                                  refine zw_46r (s := 84) zr_199_181 rfl rfl rfl rfl ?_
                                  refine zw_4 zr_199_184 rfl ?_
                                  refine zw_4 zr_199_186 rfl ?_
                                  refine zw_push zr_199_188 ?_
                                  refine zw_20 zr_199_189 (by omega) (by omega) (by omega) (by omega) ?_
                                  refine zw_49 (c := 84) (len := 10) zr_199_190 rfl rfl (by omega) (by omega) ?_
                                  intro m63 em63
                                  have hIm63 : zInv m63 := by rw [em63]; exact hIm32.any (by omega) rfl (by decide) (by decide)
                                  have hFm63 : zFr W_199 m0 m63 := by rw [em63]; exact hFm32.any rfl
                                  have km63_70_823 : m63 70 823 = f11 := by rw [em63, zUp_ne (by omega)]; exact km32_70_823
                                  have km63_70_822 : m63 70 822 = f18 := by rw [em63, zUp_ne (by omega)]; exact km32_70_822
                                  clear em63
                                  refine zw_4 zr_199_191 rfl ?_
                                  refine zw_push zr_199_193 ?_
                                  refine zw_19 zr_199_194 (by omega) (by omega) (by omega) (by omega) ?_
                                  refine zw_10 (L' := [(2, 69), (0, a0), (0, i13), (0, i20), (0, i21), (0, i22), (0, (i30 / 3)), (0, i31), (9, 0), (9, 0)]) zr_199_195 (Nat.le_of_ble_eq_true rfl) rfl ?_
                                  refine zw_15 (c := (-1)) (L' := [(2, 69), (0, a0), (0, i13), (0, i20), (0, i21), (0, i22), (0, (i30 / 3)), (0, (i31 + (-1))), (9, 0), (9, 0)]) zr_199_197 rfl (by decide) (by omega) rfl ?_
                                  refine zw_42 zr_199_200 ?_
                                  exact zw_less (L := [(2, 69), (0, a0), (0, i13), (0, i20), (0, i21), (0, i22), (0, (i30 / 3)), (0, (i31 + (-1))), (9, 0), (9, 0)]) ⟨Or.inr rfl, Or.inr rfl, Or.inr rfl, Or.inr rfl, Or.inr rfl, Or.inr rfl, Or.inr rfl, Or.inr rfl, Or.inl rfl, Or.inl rfl, trivial⟩ (ihlp175_33 ((i30 / 3)) ((i31 + (-1))) m63 hIm63 hFm63  km63_70_823 km63_70_822 (by omega) (by omega) (by omega) (by omega)  (by omega))
                            exact lp175_33 _ (i22) ((f18 - 1)) m23 hIm23 hFm23  km23_70_823 km23_70_822 (by omega) (by omega) (by omega) (by omega)  (Nat.lt_succ_self _)
                      exact lp157_24 _ (0) ((-1)) (0) m15 hIm15 hFm15  km15_70_823 ef18 (by omega) (by omega) (by omega) (by omega) (by omega) (by omega)  (Nat.lt_succ_self _)
                    · intro h64
                      refine zw_3 zr_199_139 rfl ?_
                      refine zw_push zr_199_140 ?_
                      refine zw_18h zr_199_141 ?_
                      intro x65 hx65a hx65b
                      refine zw_9 (L' := [(2, 69), (0, a0), (0, x65), (0, i14), (9, 0), (9, 0), (9, 0), (9, 0), (9, 0), (9, 0)]) zr_199_142 (Nat.le_of_ble_eq_true rfl) rfl ?_
                      refine zw_15 (c := 1) (L' := [(2, 69), (0, a0), (0, x65), (0, (i14 + 1)), (9, 0), (9, 0), (9, 0), (9, 0), (9, 0), (9, 0)]) zr_199_143 rfl (by decide) (by omega) rfl ?_
                      refine zw_42 zr_199_146 ?_
                      exact zw_less (L := [(2, 69), (0, a0), (0, x65), (0, (i14 + 1)), (9, 0), (9, 0), (9, 0), (9, 0), (9, 0), (9, 0)]) ⟨Or.inr rfl, Or.inr rfl, Or.inr rfl, Or.inr rfl, Or.inl rfl, Or.inl rfl, Or.inl rfl, Or.inl rfl, Or.inl rfl, Or.inl rfl, trivial⟩ (ihlp131_16 (x65) ((i14 + 1)) m15 hIm15 hFm15  km15_70_823 (by omega) (by omega) (by omega) (by omega)  (by omega))
                exact lp131_16 _ (1) (0) m8 hIm8 hFm8  ef11 (by omega) (by omega) (by omega) (by omega)  (Nat.lt_succ_self _)
              · intro h66
                refine zw_7 zr_199_47 rfl ?_
                refine zw_3 zr_199_48 rfl ?_
                refine zw_push zr_199_49 ?_
                refine zw_C zr_199_50 (Or.inl rfl) zm_144 rfl rfl ⟨Nat.le_of_ble_eq_true rfl, Nat.le_of_ble_eq_true rfl, Nat.le_of_ble_eq_true rfl, rfl, by decide⟩ (by omega) (P := (fun v m' => zW E (d) 199 53 [(2, 69), (0, a0), (0, i7), (9, 0), (9, 0), (9, 0), (9, 0), (9, 0), (9, 0), (9, 0)] (if v.1 = 9 then [] else v :: []) m' Q)) ?_ (fun _ _ h => h)
                generalize hQ1 : (fun v m' => zW E (d) 199 53 [(2, 69), (0, a0), (0, i7), (9, 0), (9, 0), (9, 0), (9, 0), (9, 0), (9, 0), (9, 0)] (if v.1 = 9 then [] else v :: []) m' Q) = Q1
                show zW E (d - 1) 144 0 [(2, 69), (0, i7), (0, 4)] [] m8 Q1
                refine zw_7 zr_144_0 rfl ?_
                refine zw_46r (s := 70) zr_144_1 rfl rfl rfl rfl ?_
                refine zw_push zr_144_4 ?_
                refine zw_push zr_144_6 ?_
                refine zw_3 zr_144_8 rfl ?_
                refine zw_18 zr_144_9 (by omega) ?_
                refine zw_16 zr_144_10 (by omega) ?_
                refine zw_3 zr_144_11 rfl ?_
                refine zw_16 zr_144_12 (by omega) ?_
                refine zw_48 (c := 70) (len := 826) zr_144_13 rfl rfl (by omega) (by omega) ?_
                intro x67 ex67
                have bx67 := ib_70_m4 hIm8 (k := (((90 + (6 * i7)) + 4)).toNat) (by omega)
                rw [← ex67] at bx67
                refine zw_R zr_144_14 (by decide) zm_144 (v := (0, x67)) rfl ?_
                rw [← hQ1]
                show zW E (d) 199 53 [(2, 69), (0, a0), (0, i7), (9, 0), (9, 0), (9, 0), (9, 0), (9, 0), (9, 0), (9, 0)] [(0, x67)] m8 Q
                refine zw_40_4 zr_199_53 ?_ ?_
                · intro h68
                  refine zw_15 (c := 1) (L' := [(2, 69), (0, a0), (0, (i7 + 1)), (9, 0), (9, 0), (9, 0), (9, 0), (9, 0), (9, 0), (9, 0)]) zr_199_121 rfl (by decide) (by omega) rfl ?_
                  refine zw_42 zr_199_124 ?_
                  exact zw_less (L := [(2, 69), (0, a0), (0, (i7 + 1)), (9, 0), (9, 0), (9, 0), (9, 0), (9, 0), (9, 0), (9, 0)]) ⟨Or.inr rfl, Or.inr rfl, Or.inr rfl, Or.inl rfl, Or.inl rfl, Or.inl rfl, Or.inl rfl, Or.inl rfl, Or.inl rfl, Or.inl rfl, trivial⟩ (ihlp39_9 ((i7 + 1)) m8 hIm8 hFm8   (by omega) (by omega)  (by omega))
                · intro h69
                  refine zw_7 zr_199_56 rfl ?_
                  refine zw_3 zr_199_57 rfl ?_
                  refine zw_push zr_199_58 ?_
                  refine zw_C zr_199_59 (Or.inl rfl) zm_144 rfl rfl ⟨Nat.le_of_ble_eq_true rfl, Nat.le_of_ble_eq_true rfl, Nat.le_of_ble_eq_true rfl, rfl, by decide⟩ (by omega) (P := (fun v m' => zW E (d) 199 62 [(2, 69), (0, a0), (0, i7), (9, 0), (9, 0), (9, 0), (9, 0), (9, 0), (9, 0), (9, 0)] (if v.1 = 9 then [] else v :: []) m' Q)) ?_ (fun _ _ h => h)
                  generalize hQ1 : (fun v m' => zW E (d) 199 62 [(2, 69), (0, a0), (0, i7), (9, 0), (9, 0), (9, 0), (9, 0), (9, 0), (9, 0), (9, 0)] (if v.1 = 9 then [] else v :: []) m' Q) = Q1
                  show zW E (d - 1) 144 0 [(2, 69), (0, i7), (0, 3)] [] m8 Q1
                  refine zw_7 zr_144_0 rfl ?_
                  refine zw_46r (s := 70) zr_144_1 rfl rfl rfl rfl ?_
                  refine zw_push zr_144_4 ?_
                  refine zw_push zr_144_6 ?_
                  refine zw_3 zr_144_8 rfl ?_
                  refine zw_18 zr_144_9 (by omega) ?_
                  refine zw_16 zr_144_10 (by omega) ?_
                  refine zw_3 zr_144_11 rfl ?_
                  refine zw_16 zr_144_12 (by omega) ?_
                  refine zw_48 (c := 70) (len := 826) zr_144_13 rfl rfl (by omega) (by omega) ?_
                  intro x70 ex70
                  have bx70 := ib_70_m3 hIm8 (k := (((90 + (6 * i7)) + 3)).toNat) (by omega)
                  rw [← ex70] at bx70
                  refine zw_R zr_144_14 (by decide) zm_144 (v := (0, x70)) rfl ?_
                  rw [← hQ1]
                  show zW E (d) 199 62 [(2, 69), (0, a0), (0, i7), (9, 0), (9, 0), (9, 0), (9, 0), (9, 0), (9, 0), (9, 0)] [(0, x70)] m8 Q
                  refine zw_push zr_199_62 ?_
                  refine zw_41_1 zr_199_63 ?_ ?_
                  · intro h71
                    refine zw_15 (c := 1) (L' := [(2, 69), (0, a0), (0, (i7 + 1)), (9, 0), (9, 0), (9, 0), (9, 0), (9, 0), (9, 0), (9, 0)]) zr_199_121 rfl (by decide) (by omega) rfl ?_
                    refine zw_42 zr_199_124 ?_
                    exact zw_less (L := [(2, 69), (0, a0), (0, (i7 + 1)), (9, 0), (9, 0), (9, 0), (9, 0), (9, 0), (9, 0), (9, 0)]) ⟨Or.inr rfl, Or.inr rfl, Or.inr rfl, Or.inl rfl, Or.inl rfl, Or.inl rfl, Or.inl rfl, Or.inl rfl, Or.inl rfl, Or.inl rfl, trivial⟩ (ihlp39_9 ((i7 + 1)) m8 hIm8 hFm8   (by omega) (by omega)  (by omega))
                  · intro h72
                    refine zw_7 zr_199_66 rfl ?_
                    refine zw_3 zr_199_67 rfl ?_
                    refine zw_push zr_199_68 ?_
                    refine zw_C zr_199_69 (Or.inl rfl) zm_144 rfl rfl ⟨Nat.le_of_ble_eq_true rfl, Nat.le_of_ble_eq_true rfl, Nat.le_of_ble_eq_true rfl, rfl, by decide⟩ (by omega) (P := (fun v m' => zW E (d) 199 72 [(2, 69), (0, a0), (0, i7), (9, 0), (9, 0), (9, 0), (9, 0), (9, 0), (9, 0), (9, 0)] (if v.1 = 9 then [] else v :: []) m' Q)) ?_ (fun _ _ h => h)
                    generalize hQ1 : (fun v m' => zW E (d) 199 72 [(2, 69), (0, a0), (0, i7), (9, 0), (9, 0), (9, 0), (9, 0), (9, 0), (9, 0), (9, 0)] (if v.1 = 9 then [] else v :: []) m' Q) = Q1
                    show zW E (d - 1) 144 0 [(2, 69), (0, i7), (0, 3)] [] m8 Q1
                    refine zw_7 zr_144_0 rfl ?_
                    refine zw_46r (s := 70) zr_144_1 rfl rfl rfl rfl ?_
                    refine zw_push zr_144_4 ?_
                    refine zw_push zr_144_6 ?_
                    refine zw_3 zr_144_8 rfl ?_
                    refine zw_18 zr_144_9 (by omega) ?_
                    refine zw_16 zr_144_10 (by omega) ?_
                    refine zw_3 zr_144_11 rfl ?_
                    refine zw_16 zr_144_12 (by omega) ?_
                    refine zw_48k (c := 70) (len := 826) zr_144_13 rfl rfl (by omega) (by omega) rfl ex70.symm ?_
                    refine zw_R zr_144_14 (by decide) zm_144 (v := (0, x70)) rfl ?_
                    rw [← hQ1]
                    show zW E (d) 199 72 [(2, 69), (0, a0), (0, i7), (9, 0), (9, 0), (9, 0), (9, 0), (9, 0), (9, 0), (9, 0)] [(0, x70)] m8 Q
                    refine zw_push zr_199_72 ?_
                    refine zw_41_4 zr_199_73 ?_ ?_
                    · intro h73
                      refine zw_7 zr_199_85 rfl ?_
                      refine zw_3 zr_199_86 rfl ?_
                      refine zw_push zr_199_87 ?_
                      refine zw_C zr_199_88 (Or.inl rfl) zm_144 rfl rfl ⟨Nat.le_of_ble_eq_true rfl, Nat.le_of_ble_eq_true rfl, Nat.le_of_ble_eq_true rfl, rfl, by decide⟩ (by omega) (P := (fun v m' => zW E (d) 199 91 [(2, 69), (0, a0), (0, i7), (9, 0), (9, 0), (9, 0), (9, 0), (9, 0), (9, 0), (9, 0)] (if v.1 = 9 then [] else v :: []) m' Q)) ?_ (fun _ _ h => h)
                      generalize hQ1 : (fun v m' => zW E (d) 199 91 [(2, 69), (0, a0), (0, i7), (9, 0), (9, 0), (9, 0), (9, 0), (9, 0), (9, 0), (9, 0)] (if v.1 = 9 then [] else v :: []) m' Q) = Q1
                      show zW E (d - 1) 144 0 [(2, 69), (0, i7), (0, 2)] [] m8 Q1
                      refine zw_7 zr_144_0 rfl ?_
                      refine zw_46r (s := 70) zr_144_1 rfl rfl rfl rfl ?_
                      refine zw_push zr_144_4 ?_
                      refine zw_push zr_144_6 ?_
                      refine zw_3 zr_144_8 rfl ?_
                      refine zw_18 zr_144_9 (by omega) ?_
                      refine zw_16 zr_144_10 (by omega) ?_
                      refine zw_3 zr_144_11 rfl ?_
                      refine zw_16 zr_144_12 (by omega) ?_
                      refine zw_48 (c := 70) (len := 826) zr_144_13 rfl rfl (by omega) (by omega) ?_
                      intro x74 ex74
                      have bx74 := ib_70_m2 hIm8 (k := (((90 + (6 * i7)) + 2)).toNat) (by omega)
                      rw [← ex74] at bx74
                      refine zw_R zr_144_14 (by decide) zm_144 (v := (0, x74)) rfl ?_
                      rw [← hQ1]
                      show zW E (d) 199 91 [(2, 69), (0, a0), (0, i7), (9, 0), (9, 0), (9, 0), (9, 0), (9, 0), (9, 0), (9, 0)] [(0, x74)] m8 Q
                      refine zw_9 (L' := [(2, 69), (0, a0), (0, i7), (0, x74), (9, 0), (9, 0), (9, 0), (9, 0), (9, 0), (9, 0)]) zr_199_91 (Nat.le_of_ble_eq_true rfl) rfl ?_
                      refine zw_7 zr_199_92 rfl ?_
                      refine zw_46r (s := 83) zr_199_93 rfl rfl rfl rfl ?_
                      refine zw_push zr_199_96 ?_
                      refine zw_3 zr_199_98 rfl ?_
                      refine zw_18 zr_199_99 (by omega) ?_
                      refine zw_7 zr_199_100 rfl ?_
                      refine zw_3 zr_199_101 rfl ?_
                      refine zw_push zr_199_102 ?_
                      refine zw_C zr_199_103 (Or.inl rfl) zm_144 rfl rfl ⟨Nat.le_of_ble_eq_true rfl, Nat.le_of_ble_eq_true rfl, Nat.le_of_ble_eq_true rfl, rfl, by decide⟩ (by omega) (P := (fun v m' => zW E (d) 199 106 [(2, 69), (0, a0), (0, i7), (0, x74), (9, 0), (9, 0), (9, 0), (9, 0), (9, 0), (9, 0)] (if v.1 = 9 then [(0, (10 * x74)), (2, 83)] else v :: [(0, (10 * x74)), (2, 83)]) m' Q)) ?_ (fun _ _ h => h)
                      generalize hQ1 : (fun v m' => zW E (d) 199 106 [(2, 69), (0, a0), (0, i7), (0, x74), (9, 0), (9, 0), (9, 0), (9, 0), (9, 0), (9, 0)] (if v.1 = 9 then [(0, (10 * x74)), (2, 83)] else v :: [(0, (10 * x74)), (2, 83)]) m' Q) = Q1
                      show zW E (d - 1) 144 0 [(2, 69), (0, i7), (0, 1)] [] m8 Q1
                      refine zw_7 zr_144_0 rfl ?_
                      refine zw_46r (s := 70) zr_144_1 rfl rfl rfl rfl ?_
                      refine zw_push zr_144_4 ?_
                      refine zw_push zr_144_6 ?_
                      refine zw_3 zr_144_8 rfl ?_
                      refine zw_18 zr_144_9 (by omega) ?_
                      refine zw_16 zr_144_10 (by omega) ?_
                      refine zw_3 zr_144_11 rfl ?_
                      refine zw_16 zr_144_12 (by omega) ?_
                      refine zw_48 (c := 70) (len := 826) zr_144_13 rfl rfl (by omega) (by omega) ?_
                      intro x75 ex75
                      have bx75 := ib_70_m1 hIm8 (k := (((90 + (6 * i7)) + 1)).toNat) (by omega)
                      rw [← ex75] at bx75
                      refine zw_R zr_144_14 (by decide) zm_144 (v := (0, x75)) rfl ?_
                      rw [← hQ1]
                      show zW E (d) 199 106 [(2, 69), (0, a0), (0, i7), (0, x74), (9, 0), (9, 0), (9, 0), (9, 0), (9, 0), (9, 0)] [(0, x75), (0, (10 * x74)), (2, 83)] m8 Q
                      refine zw_16 zr_199_106 (by omega) ?_
                      refine zw_7 zr_199_107 rfl ?_
                      refine zw_3 zr_199_108 rfl ?_
                      refine zw_push zr_199_109 ?_
                      refine zw_C zr_199_110 (Or.inl rfl) zm_144 rfl rfl ⟨Nat.le_of_ble_eq_true rfl, Nat.le_of_ble_eq_true rfl, Nat.le_of_ble_eq_true rfl, rfl, by decide⟩ (by omega) (P := (fun v m' => zW E (d) 199 113 [(2, 69), (0, a0), (0, i7), (0, x74), (9, 0), (9, 0), (9, 0), (9, 0), (9, 0), (9, 0)] (if v.1 = 9 then [(0, ((10 * x74) + x75)), (2, 83)] else v :: [(0, ((10 * x74) + x75)), (2, 83)]) m' Q)) ?_ (fun _ _ h => h)
                      generalize hQ1 : (fun v m' => zW E (d) 199 113 [(2, 69), (0, a0), (0, i7), (0, x74), (9, 0), (9, 0), (9, 0), (9, 0), (9, 0), (9, 0)] (if v.1 = 9 then [(0, ((10 * x74) + x75)), (2, 83)] else v :: [(0, ((10 * x74) + x75)), (2, 83)]) m' Q) = Q1
                      show zW E (d - 1) 144 0 [(2, 69), (0, i7), (0, 2)] [] m8 Q1
                      refine zw_7 zr_144_0 rfl ?_
                      refine zw_46r (s := 70) zr_144_1 rfl rfl rfl rfl ?_
                      refine zw_push zr_144_4 ?_
                      refine zw_push zr_144_6 ?_
                      refine zw_3 zr_144_8 rfl ?_
                      refine zw_18 zr_144_9 (by omega) ?_
                      refine zw_16 zr_144_10 (by omega) ?_
                      refine zw_3 zr_144_11 rfl ?_
                      refine zw_16 zr_144_12 (by omega) ?_
                      refine zw_48k (c := 70) (len := 826) zr_144_13 rfl rfl (by omega) (by omega) rfl ex74.symm ?_
                      refine zw_R zr_144_14 (by decide) zm_144 (v := (0, x74)) rfl ?_
                      rw [← hQ1]
                      show zW E (d) 199 113 [(2, 69), (0, a0), (0, i7), (0, x74), (9, 0), (9, 0), (9, 0), (9, 0), (9, 0), (9, 0)] [(0, x74), (0, ((10 * x74) + x75)), (2, 83)] m8 Q
                      refine zw_16 zr_199_113 (by omega) ?_
                      refine zw_3 zr_199_114 rfl ?_
                      refine zw_17 zr_199_115 (by omega) ?_
                      refine zw_45 zr_199_116 ⟨rfl, rfl⟩ ?_
                      refine zw_48 (c := 83) (len := 100) zr_199_117 rfl rfl (by omega) (by omega) ?_
                      intro x76 ex76
                      have bx76 := hIm8.ra (c := 83) (len := 100) (k := (((((10 * x74) + x75) + x74) - x74)).toNat) rfl (by omega)
                      rw [← ex76] at bx76
                      clear ex76
                      refine zw_push zr_199_118 ?_
                      refine zw_16h zr_199_119 ?_
                      intro x77 hx77a hx77b
                      refine zw_49 (c := 83) (len := 100) zr_199_120 rfl rfl (by omega) (by omega) ?_
                      intro m78 em78
                      have hIm78 : zInv m78 := by rw [em78]; exact hIm8.any (by omega) rfl (by decide) (by decide)
                      have hFm78 : zFr W_199 m0 m78 := by rw [em78]; exact hFm8.any rfl
                      have km78_70_823 : m78 70 823 = f11 := by rw [em78, zUp_ne (by omega)]; exact ef11
                      clear em78
                      refine zw_15 (c := 1) (L' := [(2, 69), (0, a0), (0, (i7 + 1)), (0, x74), (9, 0), (9, 0), (9, 0), (9, 0), (9, 0), (9, 0)]) zr_199_121 rfl (by decide) (by omega) rfl ?_
                      refine zw_42 zr_199_124 ?_
                      exact zw_less (L := [(2, 69), (0, a0), (0, (i7 + 1)), (9, 0), (9, 0), (9, 0), (9, 0), (9, 0), (9, 0), (9, 0)]) ⟨Or.inr rfl, Or.inr rfl, Or.inr rfl, Or.inl rfl, Or.inl rfl, Or.inl rfl, Or.inl rfl, Or.inl rfl, Or.inl rfl, Or.inl rfl, trivial⟩ (ihlp39_9 ((i7 + 1)) m78 hIm78 hFm78   (by omega) (by omega)  (by omega))
                    · intro h79
                      refine zw_7 zr_199_76 rfl ?_
                      refine zw_3 zr_199_77 rfl ?_
                      refine zw_push zr_199_78 ?_
                      refine zw_C zr_199_79 (Or.inl rfl) zm_144 rfl rfl ⟨Nat.le_of_ble_eq_true rfl, Nat.le_of_ble_eq_true rfl, Nat.le_of_ble_eq_true rfl, rfl, by decide⟩ (by omega) (P := (fun v m' => zW E (d) 199 82 [(2, 69), (0, a0), (0, i7), (9, 0), (9, 0), (9, 0), (9, 0), (9, 0), (9, 0), (9, 0)] (if v.1 = 9 then [] else v :: []) m' Q)) ?_ (fun _ _ h => h)
                      generalize hQ1 : (fun v m' => zW E (d) 199 82 [(2, 69), (0, a0), (0, i7), (9, 0), (9, 0), (9, 0), (9, 0), (9, 0), (9, 0), (9, 0)] (if v.1 = 9 then [] else v :: []) m' Q) = Q1
                      show zW E (d - 1) 144 0 [(2, 69), (0, i7), (0, 1)] [] m8 Q1
                      refine zw_7 zr_144_0 rfl ?_
                      refine zw_46r (s := 70) zr_144_1 rfl rfl rfl rfl ?_
                      refine zw_push zr_144_4 ?_
                      refine zw_push zr_144_6 ?_
                      refine zw_3 zr_144_8 rfl ?_
                      refine zw_18 zr_144_9 (by omega) ?_
                      refine zw_16 zr_144_10 (by omega) ?_
                      refine zw_3 zr_144_11 rfl ?_
                      refine zw_16 zr_144_12 (by omega) ?_
                      refine zw_48 (c := 70) (len := 826) zr_144_13 rfl rfl (by omega) (by omega) ?_
                      intro x80 ex80
                      have bx80 := ib_70_m1 hIm8 (k := (((90 + (6 * i7)) + 1)).toNat) (by omega)
                      rw [← ex80] at bx80
                      refine zw_R zr_144_14 (by decide) zm_144 (v := (0, x80)) rfl ?_
                      rw [← hQ1]
                      show zW E (d) 199 82 [(2, 69), (0, a0), (0, i7), (9, 0), (9, 0), (9, 0), (9, 0), (9, 0), (9, 0), (9, 0)] [(0, x80)] m8 Q
                      refine zw_42 zr_199_82 ?_
                      refine zw_9 (L' := [(2, 69), (0, a0), (0, i7), (0, x80), (9, 0), (9, 0), (9, 0), (9, 0), (9, 0), (9, 0)]) zr_199_91 (Nat.le_of_ble_eq_true rfl) rfl ?_
                      refine zw_7 zr_199_92 rfl ?_
                      refine zw_46r (s := 83) zr_199_93 rfl rfl rfl rfl ?_
                      refine zw_push zr_199_96 ?_
                      refine zw_3 zr_199_98 rfl ?_
                      refine zw_18 zr_199_99 (by omega) ?_
                      refine zw_7 zr_199_100 rfl ?_
                      refine zw_3 zr_199_101 rfl ?_
                      refine zw_push zr_199_102 ?_
                      refine zw_C zr_199_103 (Or.inl rfl) zm_144 rfl rfl ⟨Nat.le_of_ble_eq_true rfl, Nat.le_of_ble_eq_true rfl, Nat.le_of_ble_eq_true rfl, rfl, by decide⟩ (by omega) (P := (fun v m' => zW E (d) 199 106 [(2, 69), (0, a0), (0, i7), (0, x80), (9, 0), (9, 0), (9, 0), (9, 0), (9, 0), (9, 0)] (if v.1 = 9 then [(0, (10 * x80)), (2, 83)] else v :: [(0, (10 * x80)), (2, 83)]) m' Q)) ?_ (fun _ _ h => h)
                      generalize hQ1 : (fun v m' => zW E (d) 199 106 [(2, 69), (0, a0), (0, i7), (0, x80), (9, 0), (9, 0), (9, 0), (9, 0), (9, 0), (9, 0)] (if v.1 = 9 then [(0, (10 * x80)), (2, 83)] else v :: [(0, (10 * x80)), (2, 83)]) m' Q) = Q1
                      show zW E (d - 1) 144 0 [(2, 69), (0, i7), (0, 1)] [] m8 Q1
                      refine zw_7 zr_144_0 rfl ?_
                      refine zw_46r (s := 70) zr_144_1 rfl rfl rfl rfl ?_
                      refine zw_push zr_144_4 ?_
                      refine zw_push zr_144_6 ?_
                      refine zw_3 zr_144_8 rfl ?_
                      refine zw_18 zr_144_9 (by omega) ?_
                      refine zw_16 zr_144_10 (by omega) ?_
                      refine zw_3 zr_144_11 rfl ?_
                      refine zw_16 zr_144_12 (by omega) ?_
                      refine zw_48k (c := 70) (len := 826) zr_144_13 rfl rfl (by omega) (by omega) rfl ex80.symm ?_
                      refine zw_R zr_144_14 (by decide) zm_144 (v := (0, x80)) rfl ?_
                      rw [← hQ1]
                      show zW E (d) 199 106 [(2, 69), (0, a0), (0, i7), (0, x80), (9, 0), (9, 0), (9, 0), (9, 0), (9, 0), (9, 0)] [(0, x80), (0, (10 * x80)), (2, 83)] m8 Q
                      refine zw_16 zr_199_106 (by omega) ?_
                      refine zw_7 zr_199_107 rfl ?_
                      refine zw_3 zr_199_108 rfl ?_
                      refine zw_push zr_199_109 ?_
                      refine zw_C zr_199_110 (Or.inl rfl) zm_144 rfl rfl ⟨Nat.le_of_ble_eq_true rfl, Nat.le_of_ble_eq_true rfl, Nat.le_of_ble_eq_true rfl, rfl, by decide⟩ (by omega) (P := (fun v m' => zW E (d) 199 113 [(2, 69), (0, a0), (0, i7), (0, x80), (9, 0), (9, 0), (9, 0), (9, 0), (9, 0), (9, 0)] (if v.1 = 9 then [(0, ((10 * x80) + x80)), (2, 83)] else v :: [(0, ((10 * x80) + x80)), (2, 83)]) m' Q)) ?_ (fun _ _ h => h)
                      generalize hQ1 : (fun v m' => zW E (d) 199 113 [(2, 69), (0, a0), (0, i7), (0, x80), (9, 0), (9, 0), (9, 0), (9, 0), (9, 0), (9, 0)] (if v.1 = 9 then [(0, ((10 * x80) + x80)), (2, 83)] else v :: [(0, ((10 * x80) + x80)), (2, 83)]) m' Q) = Q1
                      show zW E (d - 1) 144 0 [(2, 69), (0, i7), (0, 2)] [] m8 Q1
                      refine zw_7 zr_144_0 rfl ?_
                      refine zw_46r (s := 70) zr_144_1 rfl rfl rfl rfl ?_
                      refine zw_push zr_144_4 ?_
                      refine zw_push zr_144_6 ?_
                      refine zw_3 zr_144_8 rfl ?_
                      refine zw_18 zr_144_9 (by omega) ?_
                      refine zw_16 zr_144_10 (by omega) ?_
                      refine zw_3 zr_144_11 rfl ?_
                      refine zw_16 zr_144_12 (by omega) ?_
                      refine zw_48 (c := 70) (len := 826) zr_144_13 rfl rfl (by omega) (by omega) ?_
                      intro x81 ex81
                      have bx81 := ib_70_m2 hIm8 (k := (((90 + (6 * i7)) + 2)).toNat) (by omega)
                      rw [← ex81] at bx81
                      refine zw_R zr_144_14 (by decide) zm_144 (v := (0, x81)) rfl ?_
                      rw [← hQ1]
                      show zW E (d) 199 113 [(2, 69), (0, a0), (0, i7), (0, x80), (9, 0), (9, 0), (9, 0), (9, 0), (9, 0), (9, 0)] [(0, x81), (0, ((10 * x80) + x80)), (2, 83)] m8 Q
                      refine zw_16 zr_199_113 (by omega) ?_
                      refine zw_3 zr_199_114 rfl ?_
                      refine zw_17 zr_199_115 (by omega) ?_
                      refine zw_45 zr_199_116 ⟨rfl, rfl⟩ ?_
                      refine zw_48 (c := 83) (len := 100) zr_199_117 rfl rfl (by omega) (by omega) ?_
                      intro x82 ex82
                      have bx82 := hIm8.ra (c := 83) (len := 100) (k := (((((10 * x80) + x80) + x81) - x80)).toNat) rfl (by omega)
                      rw [← ex82] at bx82
                      clear ex82
                      refine zw_push zr_199_118 ?_
                      refine zw_16h zr_199_119 ?_
                      intro x83 hx83a hx83b
                      refine zw_49 (c := 83) (len := 100) zr_199_120 rfl rfl (by omega) (by omega) ?_
                      intro m84 em84
                      have hIm84 : zInv m84 := by rw [em84]; exact hIm8.any (by omega) rfl (by decide) (by decide)
                      have hFm84 : zFr W_199 m0 m84 := by rw [em84]; exact hFm8.any rfl
                      have km84_70_823 : m84 70 823 = f11 := by rw [em84, zUp_ne (by omega)]; exact ef11
                      clear em84
                      refine zw_15 (c := 1) (L' := [(2, 69), (0, a0), (0, (i7 + 1)), (0, x80), (9, 0), (9, 0), (9, 0), (9, 0), (9, 0), (9, 0)]) zr_199_121 rfl (by decide) (by omega) rfl ?_
                      refine zw_42 zr_199_124 ?_
                      exact zw_less (L := [(2, 69), (0, a0), (0, (i7 + 1)), (9, 0), (9, 0), (9, 0), (9, 0), (9, 0), (9, 0), (9, 0)]) ⟨Or.inr rfl, Or.inr rfl, Or.inr rfl, Or.inl rfl, Or.inl rfl, Or.inl rfl, Or.inl rfl, Or.inl rfl, Or.inl rfl, Or.inl rfl, trivial⟩ (ihlp39_9 ((i7 + 1)) m84 hIm84 hFm84   (by omega) (by omega)  (by omega))
          exact lp39_9 _ (0) m3 hIm3 hFm3   (by omega) (by omega)  (Nat.lt_succ_self _)
        · intro h85
          refine zw_7 zr_199_24 rfl ?_
          refine zw_46r (s := 83) zr_199_25 rfl rfl rfl rfl ?_
          refine zw_3 zr_199_28 rfl ?_
          refine zw_push zr_199_29 ?_
          refine zw_49 (c := 83) (len := 100) zr_199_30 rfl rfl (by omega) (by omega) ?_
          intro m86 em86
          have hIm86 : zInv m86 := by rw [em86]; exact hIm3.any (by omega) rfl (by decide) (by decide)
          have hFm86 : zFr W_199 m0 m86 := by rw [em86]; exact hFm3.any rfl
          clear em86
          refine zw_15 (c := 1) (L' := [(2, 69), (0, a0), (0, (i2 + 1)), (9, 0), (9, 0), (9, 0), (9, 0), (9, 0), (9, 0), (9, 0)]) zr_199_31 rfl (by decide) (by omega) rfl ?_
          refine zw_42 zr_199_34 ?_
          exact zw_less (L := [(2, 69), (0, a0), (0, (i2 + 1)), (9, 0), (9, 0), (9, 0), (9, 0), (9, 0), (9, 0), (9, 0)]) ⟨Or.inr rfl, Or.inr rfl, Or.inr rfl, Or.inl rfl, Or.inl rfl, Or.inl rfl, Or.inl rfl, Or.inl rfl, Or.inl rfl, Or.inl rfl, trivial⟩ (ihlp18_4 ((i2 + 1)) m86 hIm86 hFm86   (by omega) (by omega)  (by omega))
    exact lp18_4 _ (0) m0 hI0 hF0   (by omega) (by omega)  (Nat.lt_succ_self _)
  · intro h87
    refine zw_7 zr_199_5 rfl ?_
    refine zw_3 zr_199_6 rfl ?_
    refine zw_C zr_199_7 (Or.inl rfl) zm_143 rfl rfl ⟨Nat.le_of_ble_eq_true rfl, Nat.le_of_ble_eq_true rfl, Nat.le_of_ble_eq_true rfl, rfl, by decide⟩ (by omega) (P := (fun v m' => zW E (d) 199 10 [(2, 69), (0, a0), (9, 0), (9, 0), (9, 0), (9, 0), (9, 0), (9, 0), (9, 0), (9, 0)] (if v.1 = 9 then [] else v :: []) m' Q)) ?_ (fun _ _ h => h)
    generalize hQ1 : (fun v m' => zW E (d) 199 10 [(2, 69), (0, a0), (9, 0), (9, 0), (9, 0), (9, 0), (9, 0), (9, 0), (9, 0), (9, 0)] (if v.1 = 9 then [] else v :: []) m' Q) = Q1
    show zW E (d - 1) 143 0 [(2, 69), (0, a0)] [] m0 Q1
    refine zw_3 zr_143_0 rfl ?_
    refine zw_36 zr_143_1 ?_
    refine zw_push zr_143_2 ?_
    refine zw_7 zr_143_3 rfl ?_
    refine zw_C zr_143_4 (Or.inl rfl) zm_141 rfl rfl ⟨Nat.le_of_ble_eq_true rfl, Nat.le_of_ble_eq_true rfl, Nat.le_of_ble_eq_true rfl, rfl, by decide⟩ (by omega) (P := (fun v m' => zW E (d - 1) 143 7 [(2, 69), (0, a0)] (if v.1 = 9 then [(1, 0), (1, a0)] else v :: [(1, 0), (1, a0)]) m' Q1)) ?_ (fun _ _ h => h)
    generalize hQ2 : (fun v m' => zW E (d - 1) 143 7 [(2, 69), (0, a0)] (if v.1 = 9 then [(1, 0), (1, a0)] else v :: [(1, 0), (1, a0)]) m' Q1) = Q2
    show zW E (d - 1 - 1) 141 0 [(2, 69)] [] m0 Q2
    refine zw_7 zr_141_0 rfl ?_
    refine zw_46r (s := 70) zr_141_1 rfl rfl rfl rfl ?_
    refine zw_push zr_141_4 ?_
    obtain ⟨f88, ef88⟩ : ∃ v, m0 70 822 = v := ⟨_, rfl⟩
    have bf88 : 0 ≤ m0 70 822 ∧ m0 70 822 ≤ 10 := ib_70_players hI0 (by omega)
    rw [ef88] at bf88
    refine zw_48k (c := 70) (len := 826) zr_141_7 rfl rfl (by omega) (by omega) (show (822 : Int).toNat = 822 by omega) ef88 ?_
    refine zw_R zr_141_8 (by decide) zm_141 (v := (0, f88)) rfl ?_
    rw [← hQ2]
    show zW E (d - 1) 143 7 [(2, 69), (0, a0)] [(0, f88), (1, 0), (1, a0)] m0 Q1
    refine zw_push zr_143_7 ?_
    refine zw_17 zr_143_8 (by omega) ?_
    refine zw_36 zr_143_9 ?_
    refine zw_C zr_143_10 (Or.inr rfl) zm_140 rfl rfl ⟨Nat.le_of_ble_eq_true rfl, Nat.le_of_ble_eq_true rfl, Nat.le_of_ble_eq_true rfl, rfl, by decide⟩ (by omega) (P := (fun v m' => zW E (d - 1) 143 13 [(2, 69), (0, a0)] (if v.1 = 9 then [] else v :: []) m' Q1)) ?_ (fun _ _ h => h)
    generalize hQ2 : (fun v m' => zW E (d - 1) 143 13 [(2, 69), (0, a0)] (if v.1 = 9 then [] else v :: []) m' Q1) = Q2
    show zW E (d - 1 - 1) 140 0 [(1, a0), (9, 0), (1, 0), (9, 0), (1, (f88 - 1)), (9, 0)] [] m0 Q2
    refine zw_5 zr_140_0 rfl ?_
    refine zw_5 zr_140_1 rfl ?_
    refine zw_39_0 zr_140_2 zr_140_3 ?_ ?_
    · intro h89
      refine zw_push zr_140_17 ?_
      refine zw_R zr_140_18 (by decide) zm_140 (v := (0, 0)) (zRetB (by omega)) ?_
      rw [← hQ2]
      show zW E (d - 1) 143 13 [(2, 69), (0, a0)] [(0, 0)] m0 Q1
      refine zw_R zr_143_13 (by decide) zm_143 (v := (0, 0)) (zRetB (by omega)) ?_
      rw [← hQ1]
      show zW E (d) 199 10 [(2, 69), (0, a0), (9, 0), (9, 0), (9, 0), (9, 0), (9, 0), (9, 0), (9, 0), (9, 0)] [(0, 0)] m0 Q
      refine zw_40_4 zr_199_10 ?_ ?_
      · intro h90; omega
      · intro h91
        refine zw_push zr_199_13 ?_
        refine zw_R zr_199_15 (by decide) zm_199 (v := (0, (-2))) rfl ?_
        rw [← hQ]; exact ⟨_, rfl, by omega, by omega, hI0, hF0⟩
    · intro h92
      refine zw_5 zr_140_6 rfl ?_
      refine zw_6 zr_140_7 rfl ?_
      refine zw_39_2 zr_140_9 zr_140_10 ?_ ?_
      · intro h93
        refine zw_push zr_140_17 ?_
        refine zw_R zr_140_18 (by decide) zm_140 (v := (0, 0)) (zRetB (by omega)) ?_
        rw [← hQ2]
        show zW E (d - 1) 143 13 [(2, 69), (0, a0)] [(0, 0)] m0 Q1
        refine zw_R zr_143_13 (by decide) zm_143 (v := (0, 0)) (zRetB (by omega)) ?_
        rw [← hQ1]
        show zW E (d) 199 10 [(2, 69), (0, a0), (9, 0), (9, 0), (9, 0), (9, 0), (9, 0), (9, 0), (9, 0), (9, 0)] [(0, 0)] m0 Q
        refine zw_40_4 zr_199_10 ?_ ?_
        · intro h94; omega
        · intro h95
          refine zw_push zr_199_13 ?_
          refine zw_R zr_199_15 (by decide) zm_199 (v := (0, (-2))) rfl ?_
          rw [← hQ]; exact ⟨_, rfl, by omega, by omega, hI0, hF0⟩
      · intro h96
        refine zw_push zr_140_13 ?_
        refine zw_42 zr_140_14 ?_
        refine zw_R zr_140_18 (by decide) zm_140 (v := (0, 1)) (zRetB (by omega)) ?_
        rw [← hQ2]
        show zW E (d - 1) 143 13 [(2, 69), (0, a0)] [(0, 1)] m0 Q1
        refine zw_R zr_143_13 (by decide) zm_143 (v := (0, 1)) (zRetB (by omega)) ?_
        rw [← hQ1]
        show zW E (d) 199 10 [(2, 69), (0, a0), (9, 0), (9, 0), (9, 0), (9, 0), (9, 0), (9, 0), (9, 0), (9, 0)] [(0, 1)] m0 Q
        refine zw_40_4 zr_199_10 ?_ ?_
        · intro h97
          refine zw_push zr_199_16 ?_
          refine zw_9 (L' := [(2, 69), (0, a0), (0, 0), (9, 0), (9, 0), (9, 0), (9, 0), (9, 0), (9, 0), (9, 0)]) zr_199_17 (Nat.le_of_ble_eq_true rfl) rfl ?_
          have lp18_100 : ∀ (nlp18_100 : Nat) (i98 : Int) (m99 : zM), zInv m99 → zFr W_199 m0 m99 → m99 70 822 = f88 → 0 ≤ i98 → i98 ≤ 100 → (100 - i98).toNat < nlp18_100 → zW E (d) 199 18 [(2, 69), (0, a0), (0, i98), (9, 0), (9, 0), (9, 0), (9, 0), (9, 0), (9, 0), (9, 0)] [] m99 Q := by
            intro nlp18_100
            induction nlp18_100 with
            | zero =>
              intros
              exact absurd (by assumption : _ < 0) (Nat.not_lt_zero _)
            | succ nlp18_100 ihlp18_100 =>
              intro i98 m99 hIm99 hFm99 km99_70_822 li98 ui98 hmlp18_100
              refine zw_3 zr_199_18 rfl ?_
              refine zw_push zr_199_19 ?_
              refine zw_41_3 zr_199_21 ?_ ?_
              · intro h102
                refine zw_push zr_199_37 ?_
                refine zw_9 (L' := [(2, 69), (0, a0), (0, 0), (9, 0), (9, 0), (9, 0), (9, 0), (9, 0), (9, 0), (9, 0)]) zr_199_38 (Nat.le_of_ble_eq_true rfl) rfl ?_
                have lp39_105 : ∀ (nlp39_105 : Nat) (i103 : Int) (m104 : zM), zInv m104 → zFr W_199 m0 m104 → m104 70 822 = f88 → 0 ≤ i103 → i103 ≤ 60 → (60 - i103).toNat < nlp39_105 → zW E (d) 199 39 [(2, 69), (0, a0), (0, i103), (9, 0), (9, 0), (9, 0), (9, 0), (9, 0), (9, 0), (9, 0)] [] m104 Q := by
                  intro nlp39_105
                  induction nlp39_105 with
                  | zero =>
                    intros
                    exact absurd (by assumption : _ < 0) (Nat.not_lt_zero _)
                  | succ nlp39_105 ihlp39_105 =>
                    intro i103 m104 hIm104 hFm104 km104_70_822 li103 ui103 hmlp39_105
                    refine zw_3 zr_199_39 rfl ?_
                    refine zw_7 zr_199_40 rfl ?_
                    refine zw_C zr_199_41 (Or.inl rfl) zm_142 rfl rfl ⟨Nat.le_of_ble_eq_true rfl, Nat.le_of_ble_eq_true rfl, Nat.le_of_ble_eq_true rfl, rfl, by decide⟩ (by omega) (P := (fun v m' => zW E (d) 199 44 [(2, 69), (0, a0), (0, i103), (9, 0), (9, 0), (9, 0), (9, 0), (9, 0), (9, 0), (9, 0)] (if v.1 = 9 then [(0, i103)] else v :: [(0, i103)]) m' Q)) ?_ (fun _ _ h => h)
                    generalize hQ1 : (fun v m' => zW E (d) 199 44 [(2, 69), (0, a0), (0, i103), (9, 0), (9, 0), (9, 0), (9, 0), (9, 0), (9, 0), (9, 0)] (if v.1 = 9 then [(0, i103)] else v :: [(0, i103)]) m' Q) = Q1
                    show zW E (d - 1) 142 0 [(2, 69)] [] m104 Q1
                    refine zw_7 zr_142_0 rfl ?_
                    refine zw_46r (s := 70) zr_142_1 rfl rfl rfl rfl ?_
                    refine zw_push zr_142_4 ?_
                    obtain ⟨f107, ef107⟩ : ∃ v, m104 70 823 = v := ⟨_, rfl⟩
                    have bf107 : 0 ≤ m104 70 823 ∧ m104 70 823 ≤ 60 := ib_70_meetings hIm104 (by omega)
                    rw [ef107] at bf107
                    refine zw_48k (c := 70) (len := 826) zr_142_7 rfl rfl (by omega) (by omega) (show (823 : Int).toNat = 823 by omega) ef107 ?_
                    refine zw_R zr_142_8 (by decide) zm_142 (v := (0, f107)) rfl ?_
                    rw [← hQ1]
                    show zW E (d) 199 44 [(2, 69), (0, a0), (0, i103), (9, 0), (9, 0), (9, 0), (9, 0), (9, 0), (9, 0), (9, 0)] [(0, f107), (0, i103)] m104 Q
                    refine zw_41_3 zr_199_44 ?_ ?_
                    · intro h108
                      refine zw_push zr_199_127 ?_
                      refine zw_9 (L' := [(2, 69), (0, a0), (0, 1), (9, 0), (9, 0), (9, 0), (9, 0), (9, 0), (9, 0), (9, 0)]) zr_199_128 (Nat.le_of_ble_eq_true rfl) rfl ?_
                      refine zw_push zr_199_129 ?_
                      refine zw_9 (L' := [(2, 69), (0, a0), (0, 1), (0, 0), (9, 0), (9, 0), (9, 0), (9, 0), (9, 0), (9, 0)]) zr_199_130 (Nat.le_of_ble_eq_true rfl) rfl ?_
                      have lp131_112 : ∀ (nlp131_112 : Nat) (i109 i110 : Int) (m111 : zM), zInv m111 → zFr W_199 m0 m111 → m111 70 822 = f88 → m111 70 823 = f107 → (-2147483648) ≤ i109 → i109 ≤ 2147483647 → 0 ≤ i110 → i110 ≤ 10 → (10 - i110).toNat < nlp131_112 → zW E (d) 199 131 [(2, 69), (0, a0), (0, i109), (0, i110), (9, 0), (9, 0), (9, 0), (9, 0), (9, 0), (9, 0)] [] m111 Q := by
                        intro nlp131_112
                        induction nlp131_112 with
                        | zero =>
                          intros
                          exact absurd (by assumption : _ < 0) (Nat.not_lt_zero _)
                        | succ nlp131_112 ihlp131_112 =>
                          intro i109 i110 m111 hIm111 hFm111 km111_70_822 km111_70_823 li109 ui109 li110 ui110 hmlp131_112
                          refine zw_3 zr_199_131 rfl ?_
                          refine zw_7 zr_199_132 rfl ?_
                          refine zw_C zr_199_133 (Or.inl rfl) zm_141 rfl rfl ⟨Nat.le_of_ble_eq_true rfl, Nat.le_of_ble_eq_true rfl, Nat.le_of_ble_eq_true rfl, rfl, by decide⟩ (by omega) (P := (fun v m' => zW E (d) 199 136 [(2, 69), (0, a0), (0, i109), (0, i110), (9, 0), (9, 0), (9, 0), (9, 0), (9, 0), (9, 0)] (if v.1 = 9 then [(0, i110)] else v :: [(0, i110)]) m' Q)) ?_ (fun _ _ h => h)
                          generalize hQ1 : (fun v m' => zW E (d) 199 136 [(2, 69), (0, a0), (0, i109), (0, i110), (9, 0), (9, 0), (9, 0), (9, 0), (9, 0), (9, 0)] (if v.1 = 9 then [(0, i110)] else v :: [(0, i110)]) m' Q) = Q1
                          show zW E (d - 1) 141 0 [(2, 69)] [] m111 Q1
                          refine zw_7 zr_141_0 rfl ?_
                          refine zw_46r (s := 70) zr_141_1 rfl rfl rfl rfl ?_
                          refine zw_push zr_141_4 ?_
                          refine zw_48k (c := 70) (len := 826) zr_141_7 rfl rfl (by omega) (by omega) (show (822 : Int).toNat = 822 by omega) km111_70_822 ?_
                          refine zw_R zr_141_8 (by decide) zm_141 (v := (0, f88)) rfl ?_
                          rw [← hQ1]
                          show zW E (d) 199 136 [(2, 69), (0, a0), (0, i109), (0, i110), (9, 0), (9, 0), (9, 0), (9, 0), (9, 0), (9, 0)] [(0, f88), (0, i110)] m111 Q
                          refine zw_41_3 zr_199_136 ?_ ?_
                          · intro h114
                            refine zw_push zr_199_149 ?_
                            refine zw_9 (L' := [(2, 69), (0, a0), (0, i109), (0, 0), (9, 0), (9, 0), (9, 0), (9, 0), (9, 0), (9, 0)]) zr_199_150 (Nat.le_of_ble_eq_true rfl) rfl ?_
                            refine zw_push zr_199_151 ?_
                            refine zw_10 (L' := [(2, 69), (0, a0), (0, i109), (0, 0), (0, (-1)), (9, 0), (9, 0), (9, 0), (9, 0), (9, 0)]) zr_199_152 (Nat.le_of_ble_eq_true rfl) rfl ?_
                            refine zw_push zr_199_154 ?_
                            refine zw_10 (L' := [(2, 69), (0, a0), (0, i109), (0, 0), (0, (-1)), (0, 0), (9, 0), (9, 0), (9, 0), (9, 0)]) zr_199_155 (Nat.le_of_ble_eq_true rfl) rfl ?_
                            have lp157_119 : ∀ (nlp157_119 : Nat) (i115 i116 i117 : Int) (m118 : zM), zInv m118 → zFr W_199 m0 m118 → m118 70 822 = f88 → m118 70 823 = f107 → 0 ≤ i115 → i115 ≤ 2147483647 → (-1) ≤ i116 → i116 ≤ 2147483647 → 0 ≤ i117 → i117 ≤ 2147483647 → (2147483647 - i117).toNat < nlp157_119 → zW E (d) 199 157 [(2, 69), (0, a0), (0, i109), (0, i115), (0, i116), (0, i117), (9, 0), (9, 0), (9, 0), (9, 0)] [] m118 Q := by
                              intro nlp157_119
                              induction nlp157_119 with
                              | zero =>
                                intros
                                exact absurd (by assumption : _ < 0) (Nat.not_lt_zero _)
                              | succ nlp157_119 ihlp157_119 =>
                                intro i115 i116 i117 m118 hIm118 hFm118 km118_70_822 km118_70_823 li115 ui115 li116 ui116 li117 ui117 hmlp157_119
                                refine zw_4 zr_199_157 rfl ?_
                                refine zw_3 zr_199_159 rfl ?_
                                refine zw_41_3 zr_199_160 ?_ ?_
                                · intro h121
                                  refine zw_3 zr_199_321 rfl ?_
                                  refine zw_push zr_199_322 ?_
                                  refine zw_41_4 zr_199_323 ?_ ?_
                                  · intro h122
                                    refine zw_7 zr_199_329 rfl ?_
                                    refine zw_C zr_199_330 (Or.inl rfl) zm_141 rfl rfl ⟨Nat.le_of_ble_eq_true rfl, Nat.le_of_ble_eq_true rfl, Nat.le_of_ble_eq_true rfl, rfl, by decide⟩ (by omega) (P := (fun v m' => zW E (d) 199 333 [(2, 69), (0, a0), (0, i109), (0, i115), (0, i116), (0, i117), (9, 0), (9, 0), (9, 0), (9, 0)] (if v.1 = 9 then [] else v :: []) m' Q)) ?_ (fun _ _ h => h)
                                    generalize hQ1 : (fun v m' => zW E (d) 199 333 [(2, 69), (0, a0), (0, i109), (0, i115), (0, i116), (0, i117), (9, 0), (9, 0), (9, 0), (9, 0)] (if v.1 = 9 then [] else v :: []) m' Q) = Q1
                                    show zW E (d - 1) 141 0 [(2, 69)] [] m118 Q1
                                    refine zw_7 zr_141_0 rfl ?_
                                    refine zw_46r (s := 70) zr_141_1 rfl rfl rfl rfl ?_
                                    refine zw_push zr_141_4 ?_
                                    refine zw_48k (c := 70) (len := 826) zr_141_7 rfl rfl (by omega) (by omega) (show (822 : Int).toNat = 822 by omega) km118_70_822 ?_
                                    refine zw_R zr_141_8 (by decide) zm_141 (v := (0, f88)) rfl ?_
                                    rw [← hQ1]
                                    show zW E (d) 199 333 [(2, 69), (0, a0), (0, i109), (0, i115), (0, i116), (0, i117), (9, 0), (9, 0), (9, 0), (9, 0)] [(0, f88)] m118 Q
                                    refine zw_push zr_199_333 ?_
                                    refine zw_17 zr_199_334 (by omega) ?_
                                    refine zw_10 (L' := [(2, 69), (0, a0), (0, i109), (0, i115), (0, i116), (0, (f88 - 1)), (9, 0), (9, 0), (9, 0), (9, 0)]) zr_199_335 (Nat.le_of_ble_eq_true rfl) rfl ?_
                                    have lp337_125 : ∀ (nlp337_125 : Nat) (i123 i124 : Int), 0 ≤ i123 → i123 ≤ 2147483647 → 0 ≤ i124 → i124 ≤ 9 → (i124 - 0).toNat < nlp337_125 → zW E (d) 199 337 [(2, 69), (0, a0), (0, i109), (0, i123), (0, i116), (0, i124), (9, 0), (9, 0), (9, 0), (9, 0)] [] m118 Q := by
                                      intro nlp337_125
                                      induction nlp337_125 with
                                      | zero =>
                                        intros
                                        exact absurd (by assumption : _ < 0) (Nat.not_lt_zero _)
                                      | succ nlp337_125 ihlp337_125 =>
                                        intro i123 i124 li123 ui123 li124 ui124 hmlp337_125
                                        refine zw_4 zr_199_337 rfl ?_
                                        refine zw_3 zr_199_339 rfl ?_
                                        refine zw_41_5 zr_199_340 ?_ ?_
                                        · intro h127
                                          refine zw_3 zr_199_353 rfl ?_
                                          refine zw_push zr_199_354 ?_
                                          refine zw_20 zr_199_355 (by omega) (by omega) (by omega) (by omega) ?_
                                          refine zw_R zr_199_356 (by decide) zm_199 (v := (0, (i123 % 3))) rfl ?_
                                          rw [← hQ]; exact ⟨_, rfl, by omega, by omega, hIm118, hFm118⟩
                                        · intro h128
                                          refine zw_3 zr_199_343 rfl ?_
                                          refine zw_push zr_199_344 ?_
                                          refine zw_19 zr_199_345 (by omega) (by omega) (by omega) (by omega) ?_
                                          refine zw_9 (L' := [(2, 69), (0, a0), (0, i109), (0, (i123 / 3)), (0, i116), (0, i124), (9, 0), (9, 0), (9, 0), (9, 0)]) zr_199_346 (Nat.le_of_ble_eq_true rfl) rfl ?_
                                          refine zw_15 (c := (-1)) (L' := [(2, 69), (0, a0), (0, i109), (0, (i123 / 3)), (0, i116), (0, (i124 + (-1))), (9, 0), (9, 0), (9, 0), (9, 0)]) zr_199_347 rfl (by decide) (by omega) rfl ?_
                                          refine zw_42 zr_199_350 ?_
                                          exact zw_less (L := [(2, 69), (0, a0), (0, i109), (0, (i123 / 3)), (0, i116), (0, (i124 + (-1))), (9, 0), (9, 0), (9, 0), (9, 0)]) ⟨Or.inr rfl, Or.inr rfl, Or.inr rfl, Or.inr rfl, Or.inr rfl, Or.inr rfl, Or.inl rfl, Or.inl rfl, Or.inl rfl, Or.inl rfl, trivial⟩ (ihlp337_125 ((i123 / 3)) ((i124 + (-1)))  (by omega) (by omega) (by omega) (by omega)  (by omega))
                                    exact lp337_125 _ (i115) ((f88 - 1))  (by omega) (by omega) (by omega) (by omega)  (Nat.lt_succ_self _)
                                  · intro h129; omega
                                · intro h130
                                  refine zw_4 zr_199_163 rfl ?_
                                  refine zw_10 (L' := [(2, 69), (0, a0), (0, i109), (0, i115), (0, i116), (0, i117), (0, i117), (9, 0), (9, 0), (9, 0)]) zr_199_165 (Nat.le_of_ble_eq_true rfl) rfl ?_
                                  refine zw_7 zr_199_167 rfl ?_
                                  refine zw_C zr_199_168 (Or.inl rfl) zm_141 rfl rfl ⟨Nat.le_of_ble_eq_true rfl, Nat.le_of_ble_eq_true rfl, Nat.le_of_ble_eq_true rfl, rfl, by decide⟩ (by omega) (P := (fun v m' => zW E (d) 199 171 [(2, 69), (0, a0), (0, i109), (0, i115), (0, i116), (0, i117), (0, i117), (9, 0), (9, 0), (9, 0)] (if v.1 = 9 then [] else v :: []) m' Q)) ?_ (fun _ _ h => h)
                                  generalize hQ1 : (fun v m' => zW E (d) 199 171 [(2, 69), (0, a0), (0, i109), (0, i115), (0, i116), (0, i117), (0, i117), (9, 0), (9, 0), (9, 0)] (if v.1 = 9 then [] else v :: []) m' Q) = Q1
                                  show zW E (d - 1) 141 0 [(2, 69)] [] m118 Q1
                                  refine zw_7 zr_141_0 rfl ?_
                                  refine zw_46r (s := 70) zr_141_1 rfl rfl rfl rfl ?_
                                  refine zw_push zr_141_4 ?_
                                  refine zw_48k (c := 70) (len := 826) zr_141_7 rfl rfl (by omega) (by omega) (show (822 : Int).toNat = 822 by omega) km118_70_822 ?_
                                  refine zw_R zr_141_8 (by decide) zm_141 (v := (0, f88)) rfl ?_
                                  rw [← hQ1]
                                  show zW E (d) 199 171 [(2, 69), (0, a0), (0, i109), (0, i115), (0, i116), (0, i117), (0, i117), (9, 0), (9, 0), (9, 0)] [(0, f88)] m118 Q
                                  refine zw_push zr_199_171 ?_
                                  refine zw_17 zr_199_172 (by omega) ?_
                                  refine zw_10 (L' := [(2, 69), (0, a0), (0, i109), (0, i115), (0, i116), (0, i117), (0, i117), (0, (f88 - 1)), (9, 0), (9, 0)]) zr_199_173 (Nat.le_of_ble_eq_true rfl) rfl ?_
                                  have lp175_134 : ∀ (nlp175_134 : Nat) (i131 i132 : Int) (m133 : zM), zInv m133 → zFr W_199 m0 m133 → m133 70 822 = f88 → m133 70 823 = f107 → 0 ≤ i131 → i131 ≤ 2147483647 → (-1) ≤ i132 → i132 ≤ 9 → (i132 - (-1)).toNat < nlp175_134 → zW E (d) 199 175 [(2, 69), (0, a0), (0, i109), (0, i115), (0, i116), (0, i117), (0, i131), (0, i132), (9, 0), (9, 0)] [] m133 Q := by
                                    intro nlp175_134
                                    induction nlp175_134 with
                                    | zero =>
                                      intros
                                      exact absurd (by assumption : _ < 0) (Nat.not_lt_zero _)
                                    | succ nlp175_134 ihlp175_134 =>
                                      intro i131 i132 m133 hIm133 hFm133 km133_70_822 km133_70_823 li131 ui131 li132 ui132 hmlp175_134
                                      refine zw_4 zr_199_175 rfl ?_
                                      refine zw_40_0 zr_199_177 ?_ ?_
                                      · intro h136
                                        refine zw_push zr_199_203 ?_
                                        refine zw_10 (L' := [(2, 69), (0, a0), (0, i109), (0, i115), (0, i116), (0, i117), (0, i131), (0, 0), (9, 0), (9, 0)]) zr_199_204 (Nat.le_of_ble_eq_true rfl) rfl ?_
                                        refine zw_push zr_199_206 ?_
                                        refine zw_10 (L' := [(2, 69), (0, a0), (0, i109), (0, i115), (0, i116), (0, i117), (0, i131), (0, 0), (0, 0), (9, 0)]) zr_199_207 (Nat.le_of_ble_eq_true rfl) rfl ?_
                                        have lp209_139 : ∀ (nlp209_139 : Nat) (i137 i138 : Int), (-2147483648) ≤ i137 → i137 ≤ 2147483647 → 0 ≤ i138 → i138 ≤ 10 → (10 - i138).toNat < nlp209_139 → zW E (d) 199 209 [(2, 69), (0, a0), (0, i109), (0, i115), (0, i116), (0, i117), (0, i131), (0, i137), (0, i138), (9, 0)] [] m133 Q := by
                                          intro nlp209_139
                                          induction nlp209_139 with
                                          | zero =>
                                            intros
                                            exact absurd (by assumption : _ < 0) (Nat.not_lt_zero _)
                                          | succ nlp209_139 ihlp209_139 =>
                                            intro i137 i138 li137 ui137 li138 ui138 hmlp209_139
                                            refine zw_4 zr_199_209 rfl ?_
                                            refine zw_7 zr_199_211 rfl ?_
                                            refine zw_C zr_199_212 (Or.inl rfl) zm_141 rfl rfl ⟨Nat.le_of_ble_eq_true rfl, Nat.le_of_ble_eq_true rfl, Nat.le_of_ble_eq_true rfl, rfl, by decide⟩ (by omega) (P := (fun v m' => zW E (d) 199 215 [(2, 69), (0, a0), (0, i109), (0, i115), (0, i116), (0, i117), (0, i131), (0, i137), (0, i138), (9, 0)] (if v.1 = 9 then [(0, i138)] else v :: [(0, i138)]) m' Q)) ?_ (fun _ _ h => h)
                                            generalize hQ1 : (fun v m' => zW E (d) 199 215 [(2, 69), (0, a0), (0, i109), (0, i115), (0, i116), (0, i117), (0, i131), (0, i137), (0, i138), (9, 0)] (if v.1 = 9 then [(0, i138)] else v :: [(0, i138)]) m' Q) = Q1
                                            show zW E (d - 1) 141 0 [(2, 69)] [] m133 Q1
                                            refine zw_7 zr_141_0 rfl ?_
                                            refine zw_46r (s := 70) zr_141_1 rfl rfl rfl rfl ?_
                                            refine zw_push zr_141_4 ?_
                                            refine zw_48k (c := 70) (len := 826) zr_141_7 rfl rfl (by omega) (by omega) (show (822 : Int).toNat = 822 by omega) km133_70_822 ?_
                                            refine zw_R zr_141_8 (by decide) zm_141 (v := (0, f88)) rfl ?_
                                            rw [← hQ1]
                                            show zW E (d) 199 215 [(2, 69), (0, a0), (0, i109), (0, i115), (0, i116), (0, i117), (0, i131), (0, i137), (0, i138), (9, 0)] [(0, f88), (0, i138)] m133 Q
                                            refine zw_41_3 zr_199_215 ?_ ?_
                                            · intro h141
                                              refine zw_4 zr_199_285 rfl ?_
                                              refine zw_4 zr_199_287 rfl ?_
                                              refine zw_41_5 zr_199_289 ?_ ?_
                                              · intro h142
                                                refine zw_3 zr_199_297 rfl ?_
                                                refine zw_9 (L' := [(2, 69), (0, a0), (0, i109), (0, i115), (0, i116), (0, i117), (0, i131), (0, i137), (0, i138), (9, 0)]) zr_199_298 (Nat.le_of_ble_eq_true rfl) rfl ?_
                                                refine zw_4 zr_199_299 rfl ?_
                                                refine zw_4 zr_199_301 rfl ?_
                                                refine zw_41_5 zr_199_303 ?_ ?_
                                                · intro h143
                                                  refine zw_4 zr_199_311 rfl ?_
                                                  refine zw_10 (L' := [(2, 69), (0, a0), (0, i109), (0, i115), (0, i116), (0, i117), (0, i131), (0, i137), (0, i138), (9, 0)]) zr_199_313 (Nat.le_of_ble_eq_true rfl) rfl ?_
                                                  refine zw_15 (c := 1) (L' := [(2, 69), (0, a0), (0, i109), (0, i115), (0, i116), (0, (i117 + 1)), (0, i131), (0, i137), (0, i138), (9, 0)]) zr_199_315 rfl (by decide) (by omega) rfl ?_
                                                  refine zw_42 zr_199_318 ?_
                                                  exact zw_less (L := [(2, 69), (0, a0), (0, i109), (0, i115), (0, i116), (0, (i117 + 1)), (9, 0), (9, 0), (9, 0), (9, 0)]) ⟨Or.inr rfl, Or.inr rfl, Or.inr rfl, Or.inr rfl, Or.inr rfl, Or.inr rfl, Or.inl rfl, Or.inl rfl, Or.inl rfl, Or.inl rfl, trivial⟩ (ihlp157_119 (i115) (i116) ((i117 + 1)) m133 hIm133 hFm133  km133_70_822 km133_70_823 (by omega) (by omega) (by omega) (by omega) (by omega) (by omega)  (by omega))
                                                · intro h144
                                                  refine zw_4 zr_199_306 rfl ?_
                                                  refine zw_42 zr_199_308 ?_
                                                  refine zw_10 (L' := [(2, 69), (0, a0), (0, i109), (0, i115), (0, i137), (0, i117), (0, i131), (0, i137), (0, i138), (9, 0)]) zr_199_313 (Nat.le_of_ble_eq_true rfl) rfl ?_
                                                  refine zw_15 (c := 1) (L' := [(2, 69), (0, a0), (0, i109), (0, i115), (0, i137), (0, (i117 + 1)), (0, i131), (0, i137), (0, i138), (9, 0)]) zr_199_315 rfl (by decide) (by omega) rfl ?_
                                                  refine zw_42 zr_199_318 ?_
                                                  exact zw_less (L := [(2, 69), (0, a0), (0, i109), (0, i115), (0, i137), (0, (i117 + 1)), (9, 0), (9, 0), (9, 0), (9, 0)]) ⟨Or.inr rfl, Or.inr rfl, Or.inr rfl, Or.inr rfl, Or.inr rfl, Or.inr rfl, Or.inl rfl, Or.inl rfl, Or.inl rfl, Or.inl rfl, trivial⟩ (ihlp157_119 (i115) (i137) ((i117 + 1)) m133 hIm133 hFm133  km133_70_822 km133_70_823 (by omega) (by omega) (by omega) (by omega) (by omega) (by omega)  (by omega))
                                              · intro h145
                                                refine zw_4 zr_199_292 rfl ?_
                                                refine zw_42 zr_199_294 ?_
                                                refine zw_9 (L' := [(2, 69), (0, a0), (0, i109), (0, i117), (0, i116), (0, i117), (0, i131), (0, i137), (0, i138), (9, 0)]) zr_199_298 (Nat.le_of_ble_eq_true rfl) rfl ?_
                                                refine zw_4 zr_199_299 rfl ?_
                                                refine zw_4 zr_199_301 rfl ?_
                                                refine zw_41_5 zr_199_303 ?_ ?_
                                                · intro h146
                                                  refine zw_4 zr_199_311 rfl ?_
                                                  refine zw_10 (L' := [(2, 69), (0, a0), (0, i109), (0, i117), (0, i116), (0, i117), (0, i131), (0, i137), (0, i138), (9, 0)]) zr_199_313 (Nat.le_of_ble_eq_true rfl) rfl ?_
                                                  refine zw_15 (c := 1) (L' := [(2, 69), (0, a0), (0, i109), (0, i117), (0, i116), (0, (i117 + 1)), (0, i131), (0, i137), (0, i138), (9, 0)]) zr_199_315 rfl (by decide) (by omega) rfl ?_
                                                  refine zw_42 zr_199_318 ?_
                                                  exact zw_less (L := [(2, 69), (0, a0), (0, i109), (0, i117), (0, i116), (0, (i117 + 1)), (9, 0), (9, 0), (9, 0), (9, 0)]) ⟨Or.inr rfl, Or.inr rfl, Or.inr rfl, Or.inr rfl, Or.inr rfl, Or.inr rfl, Or.inl rfl, Or.inl rfl, Or.inl rfl, Or.inl rfl, trivial⟩ (ihlp157_119 (i117) (i116) ((i117 + 1)) m133 hIm133 hFm133  km133_70_822 km133_70_823 (by omega) (by omega) (by omega) (by omega) (by omega) (by omega)  (by omega))
                                                · intro h147
                                                  refine zw_4 zr_199_306 rfl ?_
                                                  refine zw_42 zr_199_308 ?_
                                                  refine zw_10 (L' := [(2, 69), (0, a0), (0, i109), (0, i117), (0, i137), (0, i117), (0, i131), (0, i137), (0, i138), (9, 0)]) zr_199_313 (Nat.le_of_ble_eq_true rfl) rfl ?_
                                                  refine zw_15 (c := 1) (L' := [(2, 69), (0, a0), (0, i109), (0, i117), (0, i137), (0, (i117 + 1)), (0, i131), (0, i137), (0, i138), (9, 0)]) zr_199_315 rfl (by decide) (by omega) rfl ?_
                                                  refine zw_42 zr_199_318 ?_
                                                  exact zw_less (L := [(2, 69), (0, a0), (0, i109), (0, i117), (0, i137), (0, (i117 + 1)), (9, 0), (9, 0), (9, 0), (9, 0)]) ⟨Or.inr rfl, Or.inr rfl, Or.inr rfl, Or.inr rfl, Or.inr rfl, Or.inr rfl, Or.inl rfl, Or.inl rfl, Or.inl rfl, Or.inl rfl, trivial⟩ (ihlp157_119 (i117) (i137) ((i117 + 1)) m133 hIm133 hFm133  km133_70_822 km133_70_823 (by omega) (by omega) (by omega) (by omega) (by omega) (by omega)  (by omega))
                                            · intro h148
                                              refine zw_push zr_199_218 ?_
                                              refine zw_10 (L' := [(2, 69), (0, a0), (0, i109), (0, i115), (0, i116), (0, i117), (0, i131), (0, i137), (0, i138), (0, 0)]) zr_199_219 (Nat.le_of_ble_eq_true rfl) rfl ?_
                                              have lp221_151 : ∀ (nlp221_151 : Nat) (i149 i150 : Int), (-2147483648) ≤ i149 → i149 ≤ 2147483647 → 0 ≤ i150 → i150 ≤ 10 → (10 - i150).toNat < nlp221_151 → zW E (d) 199 221 [(2, 69), (0, a0), (0, i109), (0, i115), (0, i116), (0, i117), (0, i131), (0, i149), (0, i138), (0, i150)] [] m133 Q := by
                                                intro nlp221_151
                                                induction nlp221_151 with
                                                | zero =>
                                                  intros
                                                  exact absurd (by assumption : _ < 0) (Nat.not_lt_zero _)
                                                | succ nlp221_151 ihlp221_151 =>
                                                  intro i149 i150 li149 ui149 li150 ui150 hmlp221_151
                                                  refine zw_4 zr_199_221 rfl ?_
                                                  refine zw_7 zr_199_223 rfl ?_
                                                  refine zw_C zr_199_224 (Or.inl rfl) zm_141 rfl rfl ⟨Nat.le_of_ble_eq_true rfl, Nat.le_of_ble_eq_true rfl, Nat.le_of_ble_eq_true rfl, rfl, by decide⟩ (by omega) (P := (fun v m' => zW E (d) 199 227 [(2, 69), (0, a0), (0, i109), (0, i115), (0, i116), (0, i117), (0, i131), (0, i149), (0, i138), (0, i150)] (if v.1 = 9 then [(0, i150)] else v :: [(0, i150)]) m' Q)) ?_ (fun _ _ h => h)
                                                  generalize hQ1 : (fun v m' => zW E (d) 199 227 [(2, 69), (0, a0), (0, i109), (0, i115), (0, i116), (0, i117), (0, i131), (0, i149), (0, i138), (0, i150)] (if v.1 = 9 then [(0, i150)] else v :: [(0, i150)]) m' Q) = Q1
                                                  show zW E (d - 1) 141 0 [(2, 69)] [] m133 Q1
                                                  refine zw_7 zr_141_0 rfl ?_
                                                  refine zw_46r (s := 70) zr_141_1 rfl rfl rfl rfl ?_
                                                  refine zw_push zr_141_4 ?_
                                                  refine zw_48k (c := 70) (len := 826) zr_141_7 rfl rfl (by omega) (by omega) (show (822 : Int).toNat = 822 by omega) km133_70_822 ?_
                                                  refine zw_R zr_141_8 (by decide) zm_141 (v := (0, f88)) rfl ?_
                                                  rw [← hQ1]
                                                  show zW E (d) 199 227 [(2, 69), (0, a0), (0, i109), (0, i115), (0, i116), (0, i117), (0, i131), (0, i149), (0, i138), (0, i150)] [(0, f88), (0, i150)] m133 Q
                                                  refine zw_41_3 zr_199_227 ?_ ?_
                                                  · intro h153
                                                    refine zw_15 (c := 1) (L' := [(2, 69), (0, a0), (0, i109), (0, i115), (0, i116), (0, i117), (0, i131), (0, i149), (0, (i138 + 1)), (0, i150)]) zr_199_279 rfl (by decide) (by omega) rfl ?_
                                                    refine zw_42 zr_199_282 ?_
                                                    exact zw_less (L := [(2, 69), (0, a0), (0, i109), (0, i115), (0, i116), (0, i117), (0, i131), (0, i149), (0, (i138 + 1)), (9, 0)]) ⟨Or.inr rfl, Or.inr rfl, Or.inr rfl, Or.inr rfl, Or.inr rfl, Or.inr rfl, Or.inr rfl, Or.inr rfl, Or.inr rfl, Or.inl rfl, trivial⟩ (ihlp209_139 (i149) ((i138 + 1))  (by omega) (by omega) (by omega) (by omega)  (by omega))
                                                  · intro h154
                                                    refine zw_4 zr_199_230 rfl ?_
                                                    refine zw_7 zr_199_232 rfl ?_
                                                    refine zw_46r (s := 84) zr_199_233 rfl rfl rfl rfl ?_
                                                    refine zw_4 zr_199_236 rfl ?_
                                                    refine zw_48 (c := 84) (len := 10) zr_199_238 rfl rfl (by omega) (by omega) ?_
                                                    intro x155 ex155
                                                    have bx155 := hIm133.ra (c := 84) (len := 10) (k := (i138).toNat) rfl (by omega)
                                                    rw [← ex155] at bx155
                                                    clear ex155
                                                    refine zw_push zr_199_239 ?_
                                                    refine zw_16h zr_199_240 ?_
                                                    intro x156 hx156a hx156b
                                                    refine zw_push zr_199_241 ?_
                                                    refine zw_20h zr_199_242 (by omega) ?_
                                                    intro x157 hx157a hx157b
                                                    refine zw_7 zr_199_243 rfl ?_
                                                    refine zw_46r (s := 84) zr_199_244 rfl rfl rfl rfl ?_
                                                    refine zw_4 zr_199_247 rfl ?_
                                                    refine zw_48 (c := 84) (len := 10) zr_199_249 rfl rfl (by omega) (by omega) ?_
                                                    intro x158 ex158
                                                    have bx158 := hIm133.ra (c := 84) (len := 10) (k := (i150).toNat) rfl (by omega)
                                                    rw [← ex158] at bx158
                                                    clear ex158
                                                    refine zw_41_4 zr_199_250 ?_ ?_
                                                    · intro h159
                                                      refine zw_push zr_199_269 ?_
                                                      refine zw_16 zr_199_270 (by omega) ?_
                                                      refine zw_10 (L' := [(2, 69), (0, a0), (0, i109), (0, i115), (0, i116), (0, i117), (0, i131), (0, (i149 + 0)), (0, i138), (0, i150)]) zr_199_271 (Nat.le_of_ble_eq_true rfl) rfl ?_
                                                      refine zw_15 (c := 1) (L' := [(2, 69), (0, a0), (0, i109), (0, i115), (0, i116), (0, i117), (0, i131), (0, (i149 + 0)), (0, i138), (0, (i150 + 1))]) zr_199_273 rfl (by decide) (by omega) rfl ?_
                                                      refine zw_42 zr_199_276 ?_
                                                      exact zw_less (L := [(2, 69), (0, a0), (0, i109), (0, i115), (0, i116), (0, i117), (0, i131), (0, (i149 + 0)), (0, i138), (0, (i150 + 1))]) ⟨Or.inr rfl, Or.inr rfl, Or.inr rfl, Or.inr rfl, Or.inr rfl, Or.inr rfl, Or.inr rfl, Or.inr rfl, Or.inr rfl, Or.inr rfl, trivial⟩ (ihlp221_151 ((i149 + 0)) ((i150 + 1))  (by omega) (by omega) (by omega) (by omega)  (by omega))
                                                    · intro h160
                                                      refine zw_7 zr_199_253 rfl ?_
                                                      refine zw_46r (s := 83) zr_199_254 rfl rfl rfl rfl ?_
                                                      refine zw_push zr_199_257 ?_
                                                      refine zw_4 zr_199_259 rfl ?_
                                                      refine zw_18 zr_199_261 (by omega) ?_
                                                      refine zw_4 zr_199_262 rfl ?_
                                                      refine zw_16 zr_199_264 (by omega) ?_
                                                      refine zw_48 (c := 83) (len := 100) zr_199_265 rfl rfl (by omega) (by omega) ?_
                                                      intro x161 ex161
                                                      have bx161 := hIm133.ra (c := 83) (len := 100) (k := (((10 * i138) + i150)).toNat) rfl (by omega)
                                                      rw [← ex161] at bx161
                                                      clear ex161
                                                      refine zw_42 zr_199_266 ?_
                                                      refine zw_16h zr_199_270 ?_
                                                      intro x162 hx162a hx162b
                                                      refine zw_10 (L' := [(2, 69), (0, a0), (0, i109), (0, i115), (0, i116), (0, i117), (0, i131), (0, x162), (0, i138), (0, i150)]) zr_199_271 (Nat.le_of_ble_eq_true rfl) rfl ?_
                                                      refine zw_15 (c := 1) (L' := [(2, 69), (0, a0), (0, i109), (0, i115), (0, i116), (0, i117), (0, i131), (0, x162), (0, i138), (0, (i150 + 1))]) zr_199_273 rfl (by decide) (by omega) rfl ?_
                                                      refine zw_42 zr_199_276 ?_
                                                      exact zw_less (L := [(2, 69), (0, a0), (0, i109), (0, i115), (0, i116), (0, i117), (0, i131), (0, x162), (0, i138), (0, (i150 + 1))]) ⟨Or.inr rfl, Or.inr rfl, Or.inr rfl, Or.inr rfl, Or.inr rfl, Or.inr rfl, Or.inr rfl, Or.inr rfl, Or.inr rfl, Or.inr rfl, trivial⟩ (ihlp221_151 (x162) ((i150 + 1))  (by omega) (by omega) (by omega) (by omega)  (by omega))
                                              exact lp221_151 _ (i137) (0)  (by omega) (by omega) (by omega) (by omega)  (Nat.lt_succ_self _)
                                        exact lp209_139 _ (0) (0)  (by omega) (by omega) (by omega) (by omega)  (Nat.lt_succ_self _)
                                      · intro h163
                                        refine zw_7 zr_199_180 rfl ?_
                                        refine zw_46r (s := 84) zr_199_181 rfl rfl rfl rfl ?_
                                        refine zw_4 zr_199_184 rfl ?_
                                        refine zw_4 zr_199_186 rfl ?_
                                        refine zw_push zr_199_188 ?_
                                        refine zw_20 zr_199_189 (by omega) (by omega) (by omega) (by omega) ?_
                                        refine zw_49 (c := 84) (len := 10) zr_199_190 rfl rfl (by omega) (by omega) ?_
                                        intro m164 em164
                                        have hIm164 : zInv m164 := by rw [em164]; exact hIm133.any (by omega) rfl (by decide) (by decide)
                                        have hFm164 : zFr W_199 m0 m164 := by rw [em164]; exact hFm133.any rfl
                                        have km164_70_822 : m164 70 822 = f88 := by rw [em164, zUp_ne (by omega)]; exact km133_70_822
                                        have km164_70_823 : m164 70 823 = f107 := by rw [em164, zUp_ne (by omega)]; exact km133_70_823
                                        clear em164
                                        refine zw_4 zr_199_191 rfl ?_
                                        refine zw_push zr_199_193 ?_
                                        refine zw_19 zr_199_194 (by omega) (by omega) (by omega) (by omega) ?_
                                        refine zw_10 (L' := [(2, 69), (0, a0), (0, i109), (0, i115), (0, i116), (0, i117), (0, (i131 / 3)), (0, i132), (9, 0), (9, 0)]) zr_199_195 (Nat.le_of_ble_eq_true rfl) rfl ?_
                                        refine zw_15 (c := (-1)) (L' := [(2, 69), (0, a0), (0, i109), (0, i115), (0, i116), (0, i117), (0, (i131 / 3)), (0, (i132 + (-1))), (9, 0), (9, 0)]) zr_199_197 rfl (by decide) (by omega) rfl ?_
                                        refine zw_42 zr_199_200 ?_
                                        exact zw_less (L := [(2, 69), (0, a0), (0, i109), (0, i115), (0, i116), (0, i117), (0, (i131 / 3)), (0, (i132 + (-1))), (9, 0), (9, 0)]) ⟨Or.inr rfl, Or.inr rfl, Or.inr rfl, Or.inr rfl, Or.inr rfl, Or.inr rfl, Or.inr rfl, Or.inr rfl, Or.inl rfl, Or.inl rfl, trivial⟩ (ihlp175_134 ((i131 / 3)) ((i132 + (-1))) m164 hIm164 hFm164  km164_70_822 km164_70_823 (by omega) (by omega) (by omega) (by omega)  (by omega))
                                  exact lp175_134 _ (i117) ((f88 - 1)) m118 hIm118 hFm118  km118_70_822 km118_70_823 (by omega) (by omega) (by omega) (by omega)  (Nat.lt_succ_self _)
                            exact lp157_119 _ (0) ((-1)) (0) m111 hIm111 hFm111  km111_70_822 km111_70_823 (by omega) (by omega) (by omega) (by omega) (by omega) (by omega)  (Nat.lt_succ_self _)
                          · intro h165
                            refine zw_3 zr_199_139 rfl ?_
                            refine zw_push zr_199_140 ?_
                            refine zw_18h zr_199_141 ?_
                            intro x166 hx166a hx166b
                            refine zw_9 (L' := [(2, 69), (0, a0), (0, x166), (0, i110), (9, 0), (9, 0), (9, 0), (9, 0), (9, 0), (9, 0)]) zr_199_142 (Nat.le_of_ble_eq_true rfl) rfl ?_
                            refine zw_15 (c := 1) (L' := [(2, 69), (0, a0), (0, x166), (0, (i110 + 1)), (9, 0), (9, 0), (9, 0), (9, 0), (9, 0), (9, 0)]) zr_199_143 rfl (by decide) (by omega) rfl ?_
                            refine zw_42 zr_199_146 ?_
                            exact zw_less (L := [(2, 69), (0, a0), (0, x166), (0, (i110 + 1)), (9, 0), (9, 0), (9, 0), (9, 0), (9, 0), (9, 0)]) ⟨Or.inr rfl, Or.inr rfl, Or.inr rfl, Or.inr rfl, Or.inl rfl, Or.inl rfl, Or.inl rfl, Or.inl rfl, Or.inl rfl, Or.inl rfl, trivial⟩ (ihlp131_112 (x166) ((i110 + 1)) m111 hIm111 hFm111  km111_70_822 km111_70_823 (by omega) (by omega) (by omega) (by omega)  (by omega))
                      exact lp131_112 _ (1) (0) m104 hIm104 hFm104  km104_70_822 ef107 (by omega) (by omega) (by omega) (by omega)  (Nat.lt_succ_self _)
                    · intro h167
                      refine zw_7 zr_199_47 rfl ?_
                      refine zw_3 zr_199_48 rfl ?_
                      refine zw_push zr_199_49 ?_
                      refine zw_C zr_199_50 (Or.inl rfl) zm_144 rfl rfl ⟨Nat.le_of_ble_eq_true rfl, Nat.le_of_ble_eq_true rfl, Nat.le_of_ble_eq_true rfl, rfl, by decide⟩ (by omega) (P := (fun v m' => zW E (d) 199 53 [(2, 69), (0, a0), (0, i103), (9, 0), (9, 0), (9, 0), (9, 0), (9, 0), (9, 0), (9, 0)] (if v.1 = 9 then [] else v :: []) m' Q)) ?_ (fun _ _ h => h)
                      generalize hQ1 : (fun v m' => zW E (d) 199 53 [(2, 69), (0, a0), (0, i103), (9, 0), (9, 0), (9, 0), (9, 0), (9, 0), (9, 0), (9, 0)] (if v.1 = 9 then [] else v :: []) m' Q) = Q1
                      show zW E (d - 1) 144 0 [(2, 69), (0, i103), (0, 4)] [] m104 Q1
                      refine zw_7 zr_144_0 rfl ?_
                      refine zw_46r (s := 70) zr_144_1 rfl rfl rfl rfl ?_
                      refine zw_push zr_144_4 ?_
                      refine zw_push zr_144_6 ?_
                      refine zw_3 zr_144_8 rfl ?_
                      refine zw_18 zr_144_9 (by omega) ?_
                      refine zw_16 zr_144_10 (by omega) ?_
                      refine zw_3 zr_144_11 rfl ?_
                      refine zw_16 zr_144_12 (by omega) ?_
                      refine zw_48 (c := 70) (len := 826) zr_144_13 rfl rfl (by omega) (by omega) ?_
                      intro x168 ex168
                      have bx168 := ib_70_m4 hIm104 (k := (((90 + (6 * i103)) + 4)).toNat) (by omega)
                      rw [← ex168] at bx168
                      refine zw_R zr_144_14 (by decide) zm_144 (v := (0, x168)) rfl ?_
                      rw [← hQ1]
                      show zW E (d) 199 53 [(2, 69), (0, a0), (0, i103), (9, 0), (9, 0), (9, 0), (9, 0), (9, 0), (9, 0), (9, 0)] [(0, x168)] m104 Q
                      refine zw_40_4 zr_199_53 ?_ ?_
                      · intro h169
                        refine zw_15 (c := 1) (L' := [(2, 69), (0, a0), (0, (i103 + 1)), (9, 0), (9, 0), (9, 0), (9, 0), (9, 0), (9, 0), (9, 0)]) zr_199_121 rfl (by decide) (by omega) rfl ?_
                        refine zw_42 zr_199_124 ?_
                        exact zw_less (L := [(2, 69), (0, a0), (0, (i103 + 1)), (9, 0), (9, 0), (9, 0), (9, 0), (9, 0), (9, 0), (9, 0)]) ⟨Or.inr rfl, Or.inr rfl, Or.inr rfl, Or.inl rfl, Or.inl rfl, Or.inl rfl, Or.inl rfl, Or.inl rfl, Or.inl rfl, Or.inl rfl, trivial⟩ (ihlp39_105 ((i103 + 1)) m104 hIm104 hFm104  km104_70_822 (by omega) (by omega)  (by omega))
                      · intro h170
                        refine zw_7 zr_199_56 rfl ?_
                        refine zw_3 zr_199_57 rfl ?_
                        refine zw_push zr_199_58 ?_
                        refine zw_C zr_199_59 (Or.inl rfl) zm_144 rfl rfl ⟨Nat.le_of_ble_eq_true rfl, Nat.le_of_ble_eq_true rfl, Nat.le_of_ble_eq_true rfl, rfl, by decide⟩ (by omega) (P := (fun v m' => zW E (d) 199 62 [(2, 69), (0, a0), (0, i103), (9, 0), (9, 0), (9, 0), (9, 0), (9, 0), (9, 0), (9, 0)] (if v.1 = 9 then [] else v :: []) m' Q)) ?_ (fun _ _ h => h)
                        generalize hQ1 : (fun v m' => zW E (d) 199 62 [(2, 69), (0, a0), (0, i103), (9, 0), (9, 0), (9, 0), (9, 0), (9, 0), (9, 0), (9, 0)] (if v.1 = 9 then [] else v :: []) m' Q) = Q1
                        show zW E (d - 1) 144 0 [(2, 69), (0, i103), (0, 3)] [] m104 Q1
                        refine zw_7 zr_144_0 rfl ?_
                        refine zw_46r (s := 70) zr_144_1 rfl rfl rfl rfl ?_
                        refine zw_push zr_144_4 ?_
                        refine zw_push zr_144_6 ?_
                        refine zw_3 zr_144_8 rfl ?_
                        refine zw_18 zr_144_9 (by omega) ?_
                        refine zw_16 zr_144_10 (by omega) ?_
                        refine zw_3 zr_144_11 rfl ?_
                        refine zw_16 zr_144_12 (by omega) ?_
                        refine zw_48 (c := 70) (len := 826) zr_144_13 rfl rfl (by omega) (by omega) ?_
                        intro x171 ex171
                        have bx171 := ib_70_m3 hIm104 (k := (((90 + (6 * i103)) + 3)).toNat) (by omega)
                        rw [← ex171] at bx171
                        refine zw_R zr_144_14 (by decide) zm_144 (v := (0, x171)) rfl ?_
                        rw [← hQ1]
                        show zW E (d) 199 62 [(2, 69), (0, a0), (0, i103), (9, 0), (9, 0), (9, 0), (9, 0), (9, 0), (9, 0), (9, 0)] [(0, x171)] m104 Q
                        refine zw_push zr_199_62 ?_
                        refine zw_41_1 zr_199_63 ?_ ?_
                        · intro h172
                          refine zw_15 (c := 1) (L' := [(2, 69), (0, a0), (0, (i103 + 1)), (9, 0), (9, 0), (9, 0), (9, 0), (9, 0), (9, 0), (9, 0)]) zr_199_121 rfl (by decide) (by omega) rfl ?_
                          refine zw_42 zr_199_124 ?_
                          exact zw_less (L := [(2, 69), (0, a0), (0, (i103 + 1)), (9, 0), (9, 0), (9, 0), (9, 0), (9, 0), (9, 0), (9, 0)]) ⟨Or.inr rfl, Or.inr rfl, Or.inr rfl, Or.inl rfl, Or.inl rfl, Or.inl rfl, Or.inl rfl, Or.inl rfl, Or.inl rfl, Or.inl rfl, trivial⟩ (ihlp39_105 ((i103 + 1)) m104 hIm104 hFm104  km104_70_822 (by omega) (by omega)  (by omega))
                        · intro h173
                          refine zw_7 zr_199_66 rfl ?_
                          refine zw_3 zr_199_67 rfl ?_
                          refine zw_push zr_199_68 ?_
                          refine zw_C zr_199_69 (Or.inl rfl) zm_144 rfl rfl ⟨Nat.le_of_ble_eq_true rfl, Nat.le_of_ble_eq_true rfl, Nat.le_of_ble_eq_true rfl, rfl, by decide⟩ (by omega) (P := (fun v m' => zW E (d) 199 72 [(2, 69), (0, a0), (0, i103), (9, 0), (9, 0), (9, 0), (9, 0), (9, 0), (9, 0), (9, 0)] (if v.1 = 9 then [] else v :: []) m' Q)) ?_ (fun _ _ h => h)
                          generalize hQ1 : (fun v m' => zW E (d) 199 72 [(2, 69), (0, a0), (0, i103), (9, 0), (9, 0), (9, 0), (9, 0), (9, 0), (9, 0), (9, 0)] (if v.1 = 9 then [] else v :: []) m' Q) = Q1
                          show zW E (d - 1) 144 0 [(2, 69), (0, i103), (0, 3)] [] m104 Q1
                          refine zw_7 zr_144_0 rfl ?_
                          refine zw_46r (s := 70) zr_144_1 rfl rfl rfl rfl ?_
                          refine zw_push zr_144_4 ?_
                          refine zw_push zr_144_6 ?_
                          refine zw_3 zr_144_8 rfl ?_
                          refine zw_18 zr_144_9 (by omega) ?_
                          refine zw_16 zr_144_10 (by omega) ?_
                          refine zw_3 zr_144_11 rfl ?_
                          refine zw_16 zr_144_12 (by omega) ?_
                          refine zw_48k (c := 70) (len := 826) zr_144_13 rfl rfl (by omega) (by omega) rfl ex171.symm ?_
                          refine zw_R zr_144_14 (by decide) zm_144 (v := (0, x171)) rfl ?_
                          rw [← hQ1]
                          show zW E (d) 199 72 [(2, 69), (0, a0), (0, i103), (9, 0), (9, 0), (9, 0), (9, 0), (9, 0), (9, 0), (9, 0)] [(0, x171)] m104 Q
                          refine zw_push zr_199_72 ?_
                          refine zw_41_4 zr_199_73 ?_ ?_
                          · intro h174
                            refine zw_7 zr_199_85 rfl ?_
                            refine zw_3 zr_199_86 rfl ?_
                            refine zw_push zr_199_87 ?_
                            refine zw_C zr_199_88 (Or.inl rfl) zm_144 rfl rfl ⟨Nat.le_of_ble_eq_true rfl, Nat.le_of_ble_eq_true rfl, Nat.le_of_ble_eq_true rfl, rfl, by decide⟩ (by omega) (P := (fun v m' => zW E (d) 199 91 [(2, 69), (0, a0), (0, i103), (9, 0), (9, 0), (9, 0), (9, 0), (9, 0), (9, 0), (9, 0)] (if v.1 = 9 then [] else v :: []) m' Q)) ?_ (fun _ _ h => h)
                            generalize hQ1 : (fun v m' => zW E (d) 199 91 [(2, 69), (0, a0), (0, i103), (9, 0), (9, 0), (9, 0), (9, 0), (9, 0), (9, 0), (9, 0)] (if v.1 = 9 then [] else v :: []) m' Q) = Q1
                            show zW E (d - 1) 144 0 [(2, 69), (0, i103), (0, 2)] [] m104 Q1
                            refine zw_7 zr_144_0 rfl ?_
                            refine zw_46r (s := 70) zr_144_1 rfl rfl rfl rfl ?_
                            refine zw_push zr_144_4 ?_
                            refine zw_push zr_144_6 ?_
                            refine zw_3 zr_144_8 rfl ?_
                            refine zw_18 zr_144_9 (by omega) ?_
                            refine zw_16 zr_144_10 (by omega) ?_
                            refine zw_3 zr_144_11 rfl ?_
                            refine zw_16 zr_144_12 (by omega) ?_
                            refine zw_48 (c := 70) (len := 826) zr_144_13 rfl rfl (by omega) (by omega) ?_
                            intro x175 ex175
                            have bx175 := ib_70_m2 hIm104 (k := (((90 + (6 * i103)) + 2)).toNat) (by omega)
                            rw [← ex175] at bx175
                            refine zw_R zr_144_14 (by decide) zm_144 (v := (0, x175)) rfl ?_
                            rw [← hQ1]
                            show zW E (d) 199 91 [(2, 69), (0, a0), (0, i103), (9, 0), (9, 0), (9, 0), (9, 0), (9, 0), (9, 0), (9, 0)] [(0, x175)] m104 Q
                            refine zw_9 (L' := [(2, 69), (0, a0), (0, i103), (0, x175), (9, 0), (9, 0), (9, 0), (9, 0), (9, 0), (9, 0)]) zr_199_91 (Nat.le_of_ble_eq_true rfl) rfl ?_
                            refine zw_7 zr_199_92 rfl ?_
                            refine zw_46r (s := 83) zr_199_93 rfl rfl rfl rfl ?_
                            refine zw_push zr_199_96 ?_
                            refine zw_3 zr_199_98 rfl ?_
                            refine zw_18 zr_199_99 (by omega) ?_
                            refine zw_7 zr_199_100 rfl ?_
                            refine zw_3 zr_199_101 rfl ?_
                            refine zw_push zr_199_102 ?_
                            refine zw_C zr_199_103 (Or.inl rfl) zm_144 rfl rfl ⟨Nat.le_of_ble_eq_true rfl, Nat.le_of_ble_eq_true rfl, Nat.le_of_ble_eq_true rfl, rfl, by decide⟩ (by omega) (P := (fun v m' => zW E (d) 199 106 [(2, 69), (0, a0), (0, i103), (0, x175), (9, 0), (9, 0), (9, 0), (9, 0), (9, 0), (9, 0)] (if v.1 = 9 then [(0, (10 * x175)), (2, 83)] else v :: [(0, (10 * x175)), (2, 83)]) m' Q)) ?_ (fun _ _ h => h)
                            generalize hQ1 : (fun v m' => zW E (d) 199 106 [(2, 69), (0, a0), (0, i103), (0, x175), (9, 0), (9, 0), (9, 0), (9, 0), (9, 0), (9, 0)] (if v.1 = 9 then [(0, (10 * x175)), (2, 83)] else v :: [(0, (10 * x175)), (2, 83)]) m' Q) = Q1
                            show zW E (d - 1) 144 0 [(2, 69), (0, i103), (0, 1)] [] m104 Q1
                            refine zw_7 zr_144_0 rfl ?_
                            refine zw_46r (s := 70) zr_144_1 rfl rfl rfl rfl ?_
                            refine zw_push zr_144_4 ?_
                            refine zw_push zr_144_6 ?_
                            refine zw_3 zr_144_8 rfl ?_
                            refine zw_18 zr_144_9 (by omega) ?_
                            refine zw_16 zr_144_10 (by omega) ?_
                            refine zw_3 zr_144_11 rfl ?_
                            refine zw_16 zr_144_12 (by omega) ?_
                            refine zw_48 (c := 70) (len := 826) zr_144_13 rfl rfl (by omega) (by omega) ?_
                            intro x176 ex176
                            have bx176 := ib_70_m1 hIm104 (k := (((90 + (6 * i103)) + 1)).toNat) (by omega)
                            rw [← ex176] at bx176
                            refine zw_R zr_144_14 (by decide) zm_144 (v := (0, x176)) rfl ?_
                            rw [← hQ1]
                            show zW E (d) 199 106 [(2, 69), (0, a0), (0, i103), (0, x175), (9, 0), (9, 0), (9, 0), (9, 0), (9, 0), (9, 0)] [(0, x176), (0, (10 * x175)), (2, 83)] m104 Q
                            refine zw_16 zr_199_106 (by omega) ?_
                            refine zw_7 zr_199_107 rfl ?_
                            refine zw_3 zr_199_108 rfl ?_
                            refine zw_push zr_199_109 ?_
                            refine zw_C zr_199_110 (Or.inl rfl) zm_144 rfl rfl ⟨Nat.le_of_ble_eq_true rfl, Nat.le_of_ble_eq_true rfl, Nat.le_of_ble_eq_true rfl, rfl, by decide⟩ (by omega) (P := (fun v m' => zW E (d) 199 113 [(2, 69), (0, a0), (0, i103), (0, x175), (9, 0), (9, 0), (9, 0), (9, 0), (9, 0), (9, 0)] (if v.1 = 9 then [(0, ((10 * x175) + x176)), (2, 83)] else v :: [(0, ((10 * x175) + x176)), (2, 83)]) m' Q)) ?_ (fun _ _ h => h)
                            generalize hQ1 : (fun v m' => zW E (d) 199 113 [(2, 69), (0, a0), (0, i103), (0, x175), (9, 0), (9, 0), (9, 0), (9, 0), (9, 0), (9, 0)] (if v.1 = 9 then [(0, ((10 * x175) + x176)), (2, 83)] else v :: [(0, ((10 * x175) + x176)), (2, 83)]) m' Q) = Q1
                            show zW E (d - 1) 144 0 [(2, 69), (0, i103), (0, 2)] [] m104 Q1
                            refine zw_7 zr_144_0 rfl ?_
                            refine zw_46r (s := 70) zr_144_1 rfl rfl rfl rfl ?_
                            refine zw_push zr_144_4 ?_
                            refine zw_push zr_144_6 ?_
                            refine zw_3 zr_144_8 rfl ?_
                            refine zw_18 zr_144_9 (by omega) ?_
                            refine zw_16 zr_144_10 (by omega) ?_
                            refine zw_3 zr_144_11 rfl ?_
                            refine zw_16 zr_144_12 (by omega) ?_
                            refine zw_48k (c := 70) (len := 826) zr_144_13 rfl rfl (by omega) (by omega) rfl ex175.symm ?_
                            refine zw_R zr_144_14 (by decide) zm_144 (v := (0, x175)) rfl ?_
                            rw [← hQ1]
                            show zW E (d) 199 113 [(2, 69), (0, a0), (0, i103), (0, x175), (9, 0), (9, 0), (9, 0), (9, 0), (9, 0), (9, 0)] [(0, x175), (0, ((10 * x175) + x176)), (2, 83)] m104 Q
                            refine zw_16 zr_199_113 (by omega) ?_
                            refine zw_3 zr_199_114 rfl ?_
                            refine zw_17 zr_199_115 (by omega) ?_
                            refine zw_45 zr_199_116 ⟨rfl, rfl⟩ ?_
                            refine zw_48 (c := 83) (len := 100) zr_199_117 rfl rfl (by omega) (by omega) ?_
                            intro x177 ex177
                            have bx177 := hIm104.ra (c := 83) (len := 100) (k := (((((10 * x175) + x176) + x175) - x175)).toNat) rfl (by omega)
                            rw [← ex177] at bx177
                            clear ex177
                            refine zw_push zr_199_118 ?_
                            refine zw_16h zr_199_119 ?_
                            intro x178 hx178a hx178b
                            refine zw_49 (c := 83) (len := 100) zr_199_120 rfl rfl (by omega) (by omega) ?_
                            intro m179 em179
                            have hIm179 : zInv m179 := by rw [em179]; exact hIm104.any (by omega) rfl (by decide) (by decide)
                            have hFm179 : zFr W_199 m0 m179 := by rw [em179]; exact hFm104.any rfl
                            have km179_70_822 : m179 70 822 = f88 := by rw [em179, zUp_ne (by omega)]; exact km104_70_822
                            have km179_70_823 : m179 70 823 = f107 := by rw [em179, zUp_ne (by omega)]; exact ef107
                            clear em179
                            refine zw_15 (c := 1) (L' := [(2, 69), (0, a0), (0, (i103 + 1)), (0, x175), (9, 0), (9, 0), (9, 0), (9, 0), (9, 0), (9, 0)]) zr_199_121 rfl (by decide) (by omega) rfl ?_
                            refine zw_42 zr_199_124 ?_
                            exact zw_less (L := [(2, 69), (0, a0), (0, (i103 + 1)), (9, 0), (9, 0), (9, 0), (9, 0), (9, 0), (9, 0), (9, 0)]) ⟨Or.inr rfl, Or.inr rfl, Or.inr rfl, Or.inl rfl, Or.inl rfl, Or.inl rfl, Or.inl rfl, Or.inl rfl, Or.inl rfl, Or.inl rfl, trivial⟩ (ihlp39_105 ((i103 + 1)) m179 hIm179 hFm179  km179_70_822 (by omega) (by omega)  (by omega))
                          · intro h180
                            refine zw_7 zr_199_76 rfl ?_
                            refine zw_3 zr_199_77 rfl ?_
                            refine zw_push zr_199_78 ?_
                            refine zw_C zr_199_79 (Or.inl rfl) zm_144 rfl rfl ⟨Nat.le_of_ble_eq_true rfl, Nat.le_of_ble_eq_true rfl, Nat.le_of_ble_eq_true rfl, rfl, by decide⟩ (by omega) (P := (fun v m' => zW E (d) 199 82 [(2, 69), (0, a0), (0, i103), (9, 0), (9, 0), (9, 0), (9, 0), (9, 0), (9, 0), (9, 0)] (if v.1 = 9 then [] else v :: []) m' Q)) ?_ (fun _ _ h => h)
                            generalize hQ1 : (fun v m' => zW E (d) 199 82 [(2, 69), (0, a0), (0, i103), (9, 0), (9, 0), (9, 0), (9, 0), (9, 0), (9, 0), (9, 0)] (if v.1 = 9 then [] else v :: []) m' Q) = Q1
                            show zW E (d - 1) 144 0 [(2, 69), (0, i103), (0, 1)] [] m104 Q1
                            refine zw_7 zr_144_0 rfl ?_
                            refine zw_46r (s := 70) zr_144_1 rfl rfl rfl rfl ?_
                            refine zw_push zr_144_4 ?_
                            refine zw_push zr_144_6 ?_
                            refine zw_3 zr_144_8 rfl ?_
                            refine zw_18 zr_144_9 (by omega) ?_
                            refine zw_16 zr_144_10 (by omega) ?_
                            refine zw_3 zr_144_11 rfl ?_
                            refine zw_16 zr_144_12 (by omega) ?_
                            refine zw_48 (c := 70) (len := 826) zr_144_13 rfl rfl (by omega) (by omega) ?_
                            intro x181 ex181
                            have bx181 := ib_70_m1 hIm104 (k := (((90 + (6 * i103)) + 1)).toNat) (by omega)
                            rw [← ex181] at bx181
                            refine zw_R zr_144_14 (by decide) zm_144 (v := (0, x181)) rfl ?_
                            rw [← hQ1]
                            show zW E (d) 199 82 [(2, 69), (0, a0), (0, i103), (9, 0), (9, 0), (9, 0), (9, 0), (9, 0), (9, 0), (9, 0)] [(0, x181)] m104 Q
                            refine zw_42 zr_199_82 ?_
                            refine zw_9 (L' := [(2, 69), (0, a0), (0, i103), (0, x181), (9, 0), (9, 0), (9, 0), (9, 0), (9, 0), (9, 0)]) zr_199_91 (Nat.le_of_ble_eq_true rfl) rfl ?_
                            refine zw_7 zr_199_92 rfl ?_
                            refine zw_46r (s := 83) zr_199_93 rfl rfl rfl rfl ?_
                            refine zw_push zr_199_96 ?_
                            refine zw_3 zr_199_98 rfl ?_
                            refine zw_18 zr_199_99 (by omega) ?_
                            refine zw_7 zr_199_100 rfl ?_
                            refine zw_3 zr_199_101 rfl ?_
                            refine zw_push zr_199_102 ?_
                            refine zw_C zr_199_103 (Or.inl rfl) zm_144 rfl rfl ⟨Nat.le_of_ble_eq_true rfl, Nat.le_of_ble_eq_true rfl, Nat.le_of_ble_eq_true rfl, rfl, by decide⟩ (by omega) (P := (fun v m' => zW E (d) 199 106 [(2, 69), (0, a0), (0, i103), (0, x181), (9, 0), (9, 0), (9, 0), (9, 0), (9, 0), (9, 0)] (if v.1 = 9 then [(0, (10 * x181)), (2, 83)] else v :: [(0, (10 * x181)), (2, 83)]) m' Q)) ?_ (fun _ _ h => h)
                            generalize hQ1 : (fun v m' => zW E (d) 199 106 [(2, 69), (0, a0), (0, i103), (0, x181), (9, 0), (9, 0), (9, 0), (9, 0), (9, 0), (9, 0)] (if v.1 = 9 then [(0, (10 * x181)), (2, 83)] else v :: [(0, (10 * x181)), (2, 83)]) m' Q) = Q1
                            show zW E (d - 1) 144 0 [(2, 69), (0, i103), (0, 1)] [] m104 Q1
                            refine zw_7 zr_144_0 rfl ?_
                            refine zw_46r (s := 70) zr_144_1 rfl rfl rfl rfl ?_
                            refine zw_push zr_144_4 ?_
                            refine zw_push zr_144_6 ?_
                            refine zw_3 zr_144_8 rfl ?_
                            refine zw_18 zr_144_9 (by omega) ?_
                            refine zw_16 zr_144_10 (by omega) ?_
                            refine zw_3 zr_144_11 rfl ?_
                            refine zw_16 zr_144_12 (by omega) ?_
                            refine zw_48k (c := 70) (len := 826) zr_144_13 rfl rfl (by omega) (by omega) rfl ex181.symm ?_
                            refine zw_R zr_144_14 (by decide) zm_144 (v := (0, x181)) rfl ?_
                            rw [← hQ1]
                            show zW E (d) 199 106 [(2, 69), (0, a0), (0, i103), (0, x181), (9, 0), (9, 0), (9, 0), (9, 0), (9, 0), (9, 0)] [(0, x181), (0, (10 * x181)), (2, 83)] m104 Q
                            refine zw_16 zr_199_106 (by omega) ?_
                            refine zw_7 zr_199_107 rfl ?_
                            refine zw_3 zr_199_108 rfl ?_
                            refine zw_push zr_199_109 ?_
                            refine zw_C zr_199_110 (Or.inl rfl) zm_144 rfl rfl ⟨Nat.le_of_ble_eq_true rfl, Nat.le_of_ble_eq_true rfl, Nat.le_of_ble_eq_true rfl, rfl, by decide⟩ (by omega) (P := (fun v m' => zW E (d) 199 113 [(2, 69), (0, a0), (0, i103), (0, x181), (9, 0), (9, 0), (9, 0), (9, 0), (9, 0), (9, 0)] (if v.1 = 9 then [(0, ((10 * x181) + x181)), (2, 83)] else v :: [(0, ((10 * x181) + x181)), (2, 83)]) m' Q)) ?_ (fun _ _ h => h)
                            generalize hQ1 : (fun v m' => zW E (d) 199 113 [(2, 69), (0, a0), (0, i103), (0, x181), (9, 0), (9, 0), (9, 0), (9, 0), (9, 0), (9, 0)] (if v.1 = 9 then [(0, ((10 * x181) + x181)), (2, 83)] else v :: [(0, ((10 * x181) + x181)), (2, 83)]) m' Q) = Q1
                            show zW E (d - 1) 144 0 [(2, 69), (0, i103), (0, 2)] [] m104 Q1
                            refine zw_7 zr_144_0 rfl ?_
                            refine zw_46r (s := 70) zr_144_1 rfl rfl rfl rfl ?_
                            refine zw_push zr_144_4 ?_
                            refine zw_push zr_144_6 ?_
                            refine zw_3 zr_144_8 rfl ?_
                            refine zw_18 zr_144_9 (by omega) ?_
                            refine zw_16 zr_144_10 (by omega) ?_
                            refine zw_3 zr_144_11 rfl ?_
                            refine zw_16 zr_144_12 (by omega) ?_
                            refine zw_48 (c := 70) (len := 826) zr_144_13 rfl rfl (by omega) (by omega) ?_
                            intro x182 ex182
                            have bx182 := ib_70_m2 hIm104 (k := (((90 + (6 * i103)) + 2)).toNat) (by omega)
                            rw [← ex182] at bx182
                            refine zw_R zr_144_14 (by decide) zm_144 (v := (0, x182)) rfl ?_
                            rw [← hQ1]
                            show zW E (d) 199 113 [(2, 69), (0, a0), (0, i103), (0, x181), (9, 0), (9, 0), (9, 0), (9, 0), (9, 0), (9, 0)] [(0, x182), (0, ((10 * x181) + x181)), (2, 83)] m104 Q
                            refine zw_16 zr_199_113 (by omega) ?_
                            refine zw_3 zr_199_114 rfl ?_
                            refine zw_17 zr_199_115 (by omega) ?_
                            refine zw_45 zr_199_116 ⟨rfl, rfl⟩ ?_
                            refine zw_48 (c := 83) (len := 100) zr_199_117 rfl rfl (by omega) (by omega) ?_
                            intro x183 ex183
                            have bx183 := hIm104.ra (c := 83) (len := 100) (k := (((((10 * x181) + x181) + x182) - x181)).toNat) rfl (by omega)
                            rw [← ex183] at bx183
                            clear ex183
                            refine zw_push zr_199_118 ?_
                            refine zw_16h zr_199_119 ?_
                            intro x184 hx184a hx184b
                            refine zw_49 (c := 83) (len := 100) zr_199_120 rfl rfl (by omega) (by omega) ?_
                            intro m185 em185
                            have hIm185 : zInv m185 := by rw [em185]; exact hIm104.any (by omega) rfl (by decide) (by decide)
                            have hFm185 : zFr W_199 m0 m185 := by rw [em185]; exact hFm104.any rfl
                            have km185_70_822 : m185 70 822 = f88 := by rw [em185, zUp_ne (by omega)]; exact km104_70_822
                            have km185_70_823 : m185 70 823 = f107 := by rw [em185, zUp_ne (by omega)]; exact ef107
                            clear em185
                            refine zw_15 (c := 1) (L' := [(2, 69), (0, a0), (0, (i103 + 1)), (0, x181), (9, 0), (9, 0), (9, 0), (9, 0), (9, 0), (9, 0)]) zr_199_121 rfl (by decide) (by omega) rfl ?_
                            refine zw_42 zr_199_124 ?_
                            exact zw_less (L := [(2, 69), (0, a0), (0, (i103 + 1)), (9, 0), (9, 0), (9, 0), (9, 0), (9, 0), (9, 0), (9, 0)]) ⟨Or.inr rfl, Or.inr rfl, Or.inr rfl, Or.inl rfl, Or.inl rfl, Or.inl rfl, Or.inl rfl, Or.inl rfl, Or.inl rfl, Or.inl rfl, trivial⟩ (ihlp39_105 ((i103 + 1)) m185 hIm185 hFm185  km185_70_822 (by omega) (by omega)  (by omega))
                exact lp39_105 _ (0) m99 hIm99 hFm99  km99_70_822 (by omega) (by omega)  (Nat.lt_succ_self _)
              · intro h186
                refine zw_7 zr_199_24 rfl ?_
                refine zw_46r (s := 83) zr_199_25 rfl rfl rfl rfl ?_
                refine zw_3 zr_199_28 rfl ?_
                refine zw_push zr_199_29 ?_
                refine zw_49 (c := 83) (len := 100) zr_199_30 rfl rfl (by omega) (by omega) ?_
                intro m187 em187
                have hIm187 : zInv m187 := by rw [em187]; exact hIm99.any (by omega) rfl (by decide) (by decide)
                have hFm187 : zFr W_199 m0 m187 := by rw [em187]; exact hFm99.any rfl
                have km187_70_822 : m187 70 822 = f88 := by rw [em187, zUp_ne (by omega)]; exact km99_70_822
                clear em187
                refine zw_15 (c := 1) (L' := [(2, 69), (0, a0), (0, (i98 + 1)), (9, 0), (9, 0), (9, 0), (9, 0), (9, 0), (9, 0), (9, 0)]) zr_199_31 rfl (by decide) (by omega) rfl ?_
                refine zw_42 zr_199_34 ?_
                exact zw_less (L := [(2, 69), (0, a0), (0, (i98 + 1)), (9, 0), (9, 0), (9, 0), (9, 0), (9, 0), (9, 0), (9, 0)]) ⟨Or.inr rfl, Or.inr rfl, Or.inr rfl, Or.inl rfl, Or.inl rfl, Or.inl rfl, Or.inl rfl, Or.inl rfl, Or.inl rfl, Or.inl rfl, trivial⟩ (ihlp18_100 ((i98 + 1)) m187 hIm187 hFm187  km187_70_822 (by omega) (by omega)  (by omega))
          exact lp18_100 _ (0) m0 hI0 hF0  ef88 (by omega) (by omega)  (Nat.lt_succ_self _)
        · intro h188; omega

set_option maxHeartbeats 8000000 in
theorem th_56 {E : zE} {d : Nat} {m0 : zM} {a0 : Int} {a1 : Int} {F6 : Nat → Int} {F7 : Nat → Int} (hd : 2 ≤ d) (hI0 : zInv m0) (hG6 : m0 6 = F6) (hG7 : m0 7 = F7) (ha0 : 0 ≤ a0 ∧ a0 ≤ 9) (ha1 : 0 ≤ a1 ∧ a1 ≤ 9) : zC E d 56 [(2, 1), (0, a0), (0, a1)] m0 (fun v m' => ∃ r : Int, v = (0, r) ∧ 0 ≤ r ∧ r ≤ 60 ∧ m0 = m' ∧ (r = mtc F6 F7 a0 a1 (m0 1 1).toNat)) := by
  generalize hQ : (fun (v : zV) (m' : zM) => ∃ r : Int, v = (0, r) ∧ 0 ≤ r ∧ r ≤ 60 ∧ m0 = m' ∧ (r = mtc F6 F7 a0 a1 (m0 1 1).toNat)) = Q
  show zW E d 56 0 [(2, 1), (0, a0), (0, a1), (9, 0), (9, 0)] [] m0 Q
  refine zw_push zr_56_0 ?_
  refine zw_9 (L' := [(2, 1), (0, a0), (0, a1), (0, 0), (9, 0)]) zr_56_1 (Nat.le_of_ble_eq_true rfl) rfl ?_
  refine zw_push zr_56_2 ?_
  refine zw_10 (L' := [(2, 1), (0, a0), (0, a1), (0, 0), (0, 0)]) zr_56_3 (Nat.le_of_ble_eq_true rfl) rfl ?_
  have lp5_3 : ∀ (nlp5_3 : Nat) (i1 i2 : Int), 0 ≤ i1 → i1 ≤ 60 → 0 ≤ i2 → i2 ≤ 60 → (i1 ≤ i2) → (i1 = mtc F6 F7 a0 a1 (i2).toNat) → (i2 ≤ m0 1 1) → (60 - i2).toNat < nlp5_3 → zW E (d) 56 5 [(2, 1), (0, a0), (0, a1), (0, i1), (0, i2)] [] m0 Q := by
    intro nlp5_3
    induction nlp5_3 with
    | zero =>
      intros
      exact absurd (by assumption : _ < 0) (Nat.not_lt_zero _)
    | succ nlp5_3 ihlp5_3 =>
      intro i1 i2 li1 ui1 li2 ui2 hv0lp5_3 hv1lp5_3 hv2lp5_3 hmlp5_3
      have z5 := zmt F6 F7 a0 a1 (i2).toNat (i2 + 1).toNat (by omega)
      refine zw_4 zr_56_5 rfl ?_
      refine zw_7 zr_56_7 rfl ?_
      obtain ⟨f6, ef6⟩ : ∃ v, m0 1 1 = v := ⟨_, rfl⟩
      have bf6 := ib_1_1 hI0
      rw [ef6] at bf6
      refine zw_46i zr_56_8 ef6 rfl rfl rfl ?_
      refine zw_41_3 zr_56_11 ?_ ?_
      · intro h7
        refine zw_3 zr_56_43 rfl ?_
        refine zw_R zr_56_44 (by decide) zm_56 (v := (0, i1)) rfl ?_
        rw [← hQ]; exact ⟨_, rfl, by omega, by omega, rfl, by rw [show m0 1 1 = i2 by omega]; omega⟩
      · intro h9
        refine zw_7 zr_56_14 rfl ?_
        refine zw_4 zr_56_15 rfl ?_
        refine zw_3 zr_56_17 rfl ?_
        refine zw_C zr_56_18 (Or.inl rfl) zm_44 rfl rfl ⟨Nat.le_of_ble_eq_true rfl, Nat.le_of_ble_eq_true rfl, Nat.le_of_ble_eq_true rfl, rfl, by decide⟩ (by omega) (P := (fun v m' => zW E (d) 56 21 [(2, 1), (0, a0), (0, a1), (0, i1), (0, i2)] (if v.1 = 9 then [] else v :: []) m' Q)) ?_ (fun _ _ h => h)
        generalize hQ1 : (fun v m' => zW E (d) 56 21 [(2, 1), (0, a0), (0, a1), (0, i1), (0, i2)] (if v.1 = 9 then [] else v :: []) m' Q) = Q1
        show zW E (d - 1) 44 0 [(2, 1), (0, i2), (0, a0)] [] m0 Q1
        refine zw_7 zr_44_0 rfl ?_
        refine zw_46r (s := 6) zr_44_1 rfl rfl rfl rfl ?_
        refine zw_3 zr_44_4 rfl ?_
        refine zw_48 (c := 6) (len := 60) zr_44_5 rfl rfl (by omega) (by omega) ?_
        intro x10 ex10
        have bx10 := ib_6 hI0 (k := (i2).toNat) (by omega)
        rw [← ex10] at bx10
        have qx10 : x10 = F6 (i2).toNat := by rw [← hG6]; exact ex10
        refine zw_3 zr_44_6 rfl ?_
        refine zw_41_1 zr_44_7 ?_ ?_
        · intro h11
          refine zw_push zr_44_20 ?_
          refine zw_42 zr_44_21 ?_
          refine zw_R zr_44_25 (by decide) zm_44 (v := (0, 1)) (zRetB (by omega)) ?_
          rw [← hQ1]
          show zW E (d) 56 21 [(2, 1), (0, a0), (0, a1), (0, i1), (0, i2)] [(0, 1)] m0 Q
          refine zw_40_1 zr_56_21 ?_ ?_
          · intro h12; omega
          · intro h13
            refine zw_7 zr_56_24 rfl ?_
            refine zw_4 zr_56_25 rfl ?_
            refine zw_3 zr_56_27 rfl ?_
            refine zw_C zr_56_28 (Or.inl rfl) zm_44 rfl rfl ⟨Nat.le_of_ble_eq_true rfl, Nat.le_of_ble_eq_true rfl, Nat.le_of_ble_eq_true rfl, rfl, by decide⟩ (by omega) (P := (fun v m' => zW E (d) 56 31 [(2, 1), (0, a0), (0, a1), (0, i1), (0, i2)] (if v.1 = 9 then [] else v :: []) m' Q)) ?_ (fun _ _ h => h)
            generalize hQ1 : (fun v m' => zW E (d) 56 31 [(2, 1), (0, a0), (0, a1), (0, i1), (0, i2)] (if v.1 = 9 then [] else v :: []) m' Q) = Q1
            show zW E (d - 1) 44 0 [(2, 1), (0, i2), (0, a1)] [] m0 Q1
            refine zw_7 zr_44_0 rfl ?_
            refine zw_46r (s := 6) zr_44_1 rfl rfl rfl rfl ?_
            refine zw_3 zr_44_4 rfl ?_
            refine zw_48k (c := 6) (len := 60) zr_44_5 rfl rfl (by omega) (by omega) rfl ex10.symm ?_
            refine zw_3 zr_44_6 rfl ?_
            refine zw_41_1 zr_44_7 ?_ ?_
            · intro h14
              refine zw_push zr_44_20 ?_
              refine zw_42 zr_44_21 ?_
              refine zw_R zr_44_25 (by decide) zm_44 (v := (0, 1)) (zRetB (by omega)) ?_
              rw [← hQ1]
              show zW E (d) 56 31 [(2, 1), (0, a0), (0, a1), (0, i1), (0, i2)] [(0, 1)] m0 Q
              refine zw_40_1 zr_56_31 ?_ ?_
              · intro h15; omega
              · intro h16
                refine zw_15 (c := 1) (L' := [(2, 1), (0, a0), (0, a1), (0, (i1 + 1)), (0, i2)]) zr_56_34 rfl (by decide) (by omega) rfl ?_
                refine zw_15 (c := 1) (L' := [(2, 1), (0, a0), (0, a1), (0, (i1 + 1)), (0, (i2 + 1))]) zr_56_37 rfl (by decide) (by omega) rfl ?_
                refine zw_42 zr_56_40 ?_
                exact zw_less (L := [(2, 1), (0, a0), (0, a1), (0, (i1 + 1)), (0, (i2 + 1))]) ⟨Or.inr rfl, Or.inr rfl, Or.inr rfl, Or.inr rfl, Or.inr rfl, trivial⟩ (ihlp5_3 ((i1 + 1)) ((i2 + 1))  (by omega) (by omega) (by omega) (by omega) (by omega) (by omega) (by omega) (by omega))
            · intro h17
              refine zw_7 zr_44_10 rfl ?_
              refine zw_46r (s := 7) zr_44_11 rfl rfl rfl rfl ?_
              refine zw_3 zr_44_14 rfl ?_
              refine zw_48 (c := 7) (len := 60) zr_44_15 rfl rfl (by omega) (by omega) ?_
              intro x18 ex18
              have bx18 := ib_7 hI0 (k := (i2).toNat) (by omega)
              rw [← ex18] at bx18
              have qx18 : x18 = F7 (i2).toNat := by rw [← hG7]; exact ex18
              refine zw_3 zr_44_16 rfl ?_
              refine zw_41_4 zr_44_17 ?_ ?_
              · intro h19
                refine zw_push zr_44_24 ?_
                refine zw_R zr_44_25 (by decide) zm_44 (v := (0, 0)) (zRetB (by omega)) ?_
                rw [← hQ1]
                show zW E (d) 56 31 [(2, 1), (0, a0), (0, a1), (0, i1), (0, i2)] [(0, 0)] m0 Q
                refine zw_40_1 zr_56_31 ?_ ?_
                · intro h20
                  refine zw_15 (c := 1) (L' := [(2, 1), (0, a0), (0, a1), (0, i1), (0, (i2 + 1))]) zr_56_37 rfl (by decide) (by omega) rfl ?_
                  refine zw_42 zr_56_40 ?_
                  exact zw_less (L := [(2, 1), (0, a0), (0, a1), (0, i1), (0, (i2 + 1))]) ⟨Or.inr rfl, Or.inr rfl, Or.inr rfl, Or.inr rfl, Or.inr rfl, trivial⟩ (ihlp5_3 (i1) ((i2 + 1))  (by omega) (by omega) (by omega) (by omega) (by omega) (by omega) (by omega) (by omega))
                · intro h21; omega
              · intro h22
                refine zw_push zr_44_20 ?_
                refine zw_42 zr_44_21 ?_
                refine zw_R zr_44_25 (by decide) zm_44 (v := (0, 1)) (zRetB (by omega)) ?_
                rw [← hQ1]
                show zW E (d) 56 31 [(2, 1), (0, a0), (0, a1), (0, i1), (0, i2)] [(0, 1)] m0 Q
                refine zw_40_1 zr_56_31 ?_ ?_
                · intro h23; omega
                · intro h24
                  refine zw_15 (c := 1) (L' := [(2, 1), (0, a0), (0, a1), (0, (i1 + 1)), (0, i2)]) zr_56_34 rfl (by decide) (by omega) rfl ?_
                  refine zw_15 (c := 1) (L' := [(2, 1), (0, a0), (0, a1), (0, (i1 + 1)), (0, (i2 + 1))]) zr_56_37 rfl (by decide) (by omega) rfl ?_
                  refine zw_42 zr_56_40 ?_
                  exact zw_less (L := [(2, 1), (0, a0), (0, a1), (0, (i1 + 1)), (0, (i2 + 1))]) ⟨Or.inr rfl, Or.inr rfl, Or.inr rfl, Or.inr rfl, Or.inr rfl, trivial⟩ (ihlp5_3 ((i1 + 1)) ((i2 + 1))  (by omega) (by omega) (by omega) (by omega) (by omega) (by omega) (by omega) (by omega))
        · intro h25
          refine zw_7 zr_44_10 rfl ?_
          refine zw_46r (s := 7) zr_44_11 rfl rfl rfl rfl ?_
          refine zw_3 zr_44_14 rfl ?_
          refine zw_48 (c := 7) (len := 60) zr_44_15 rfl rfl (by omega) (by omega) ?_
          intro x26 ex26
          have bx26 := ib_7 hI0 (k := (i2).toNat) (by omega)
          rw [← ex26] at bx26
          have qx26 : x26 = F7 (i2).toNat := by rw [← hG7]; exact ex26
          refine zw_3 zr_44_16 rfl ?_
          refine zw_41_4 zr_44_17 ?_ ?_
          · intro h27
            refine zw_push zr_44_24 ?_
            refine zw_R zr_44_25 (by decide) zm_44 (v := (0, 0)) (zRetB (by omega)) ?_
            rw [← hQ1]
            show zW E (d) 56 21 [(2, 1), (0, a0), (0, a1), (0, i1), (0, i2)] [(0, 0)] m0 Q
            refine zw_40_1 zr_56_21 ?_ ?_
            · intro h28
              refine zw_15 (c := 1) (L' := [(2, 1), (0, a0), (0, a1), (0, i1), (0, (i2 + 1))]) zr_56_37 rfl (by decide) (by omega) rfl ?_
              refine zw_42 zr_56_40 ?_
              exact zw_less (L := [(2, 1), (0, a0), (0, a1), (0, i1), (0, (i2 + 1))]) ⟨Or.inr rfl, Or.inr rfl, Or.inr rfl, Or.inr rfl, Or.inr rfl, trivial⟩ (ihlp5_3 (i1) ((i2 + 1))  (by omega) (by omega) (by omega) (by omega) (by omega) (by omega) (by omega) (by omega))
            · intro h29; omega
          · intro h30
            refine zw_push zr_44_20 ?_
            refine zw_42 zr_44_21 ?_
            refine zw_R zr_44_25 (by decide) zm_44 (v := (0, 1)) (zRetB (by omega)) ?_
            rw [← hQ1]
            show zW E (d) 56 21 [(2, 1), (0, a0), (0, a1), (0, i1), (0, i2)] [(0, 1)] m0 Q
            refine zw_40_1 zr_56_21 ?_ ?_
            · intro h31; omega
            · intro h32
              refine zw_7 zr_56_24 rfl ?_
              refine zw_4 zr_56_25 rfl ?_
              refine zw_3 zr_56_27 rfl ?_
              refine zw_C zr_56_28 (Or.inl rfl) zm_44 rfl rfl ⟨Nat.le_of_ble_eq_true rfl, Nat.le_of_ble_eq_true rfl, Nat.le_of_ble_eq_true rfl, rfl, by decide⟩ (by omega) (P := (fun v m' => zW E (d) 56 31 [(2, 1), (0, a0), (0, a1), (0, i1), (0, i2)] (if v.1 = 9 then [] else v :: []) m' Q)) ?_ (fun _ _ h => h)
              generalize hQ1 : (fun v m' => zW E (d) 56 31 [(2, 1), (0, a0), (0, a1), (0, i1), (0, i2)] (if v.1 = 9 then [] else v :: []) m' Q) = Q1
              show zW E (d - 1) 44 0 [(2, 1), (0, i2), (0, a1)] [] m0 Q1
              refine zw_7 zr_44_0 rfl ?_
              refine zw_46r (s := 6) zr_44_1 rfl rfl rfl rfl ?_
              refine zw_3 zr_44_4 rfl ?_
              refine zw_48k (c := 6) (len := 60) zr_44_5 rfl rfl (by omega) (by omega) rfl ex10.symm ?_
              refine zw_3 zr_44_6 rfl ?_
              refine zw_41_1 zr_44_7 ?_ ?_
              · intro h33
                refine zw_push zr_44_20 ?_
                refine zw_42 zr_44_21 ?_
                refine zw_R zr_44_25 (by decide) zm_44 (v := (0, 1)) (zRetB (by omega)) ?_
                rw [← hQ1]
                show zW E (d) 56 31 [(2, 1), (0, a0), (0, a1), (0, i1), (0, i2)] [(0, 1)] m0 Q
                refine zw_40_1 zr_56_31 ?_ ?_
                · intro h34; omega
                · intro h35
                  refine zw_15 (c := 1) (L' := [(2, 1), (0, a0), (0, a1), (0, (i1 + 1)), (0, i2)]) zr_56_34 rfl (by decide) (by omega) rfl ?_
                  refine zw_15 (c := 1) (L' := [(2, 1), (0, a0), (0, a1), (0, (i1 + 1)), (0, (i2 + 1))]) zr_56_37 rfl (by decide) (by omega) rfl ?_
                  refine zw_42 zr_56_40 ?_
                  exact zw_less (L := [(2, 1), (0, a0), (0, a1), (0, (i1 + 1)), (0, (i2 + 1))]) ⟨Or.inr rfl, Or.inr rfl, Or.inr rfl, Or.inr rfl, Or.inr rfl, trivial⟩ (ihlp5_3 ((i1 + 1)) ((i2 + 1))  (by omega) (by omega) (by omega) (by omega) (by omega) (by omega) (by omega) (by omega))
              · intro h36
                refine zw_7 zr_44_10 rfl ?_
                refine zw_46r (s := 7) zr_44_11 rfl rfl rfl rfl ?_
                refine zw_3 zr_44_14 rfl ?_
                refine zw_48k (c := 7) (len := 60) zr_44_15 rfl rfl (by omega) (by omega) rfl ex26.symm ?_
                refine zw_3 zr_44_16 rfl ?_
                refine zw_41_4 zr_44_17 ?_ ?_
                · intro h37
                  refine zw_push zr_44_24 ?_
                  refine zw_R zr_44_25 (by decide) zm_44 (v := (0, 0)) (zRetB (by omega)) ?_
                  rw [← hQ1]
                  show zW E (d) 56 31 [(2, 1), (0, a0), (0, a1), (0, i1), (0, i2)] [(0, 0)] m0 Q
                  refine zw_40_1 zr_56_31 ?_ ?_
                  · intro h38
                    refine zw_15 (c := 1) (L' := [(2, 1), (0, a0), (0, a1), (0, i1), (0, (i2 + 1))]) zr_56_37 rfl (by decide) (by omega) rfl ?_
                    refine zw_42 zr_56_40 ?_
                    exact zw_less (L := [(2, 1), (0, a0), (0, a1), (0, i1), (0, (i2 + 1))]) ⟨Or.inr rfl, Or.inr rfl, Or.inr rfl, Or.inr rfl, Or.inr rfl, trivial⟩ (ihlp5_3 (i1) ((i2 + 1))  (by omega) (by omega) (by omega) (by omega) (by omega) (by omega) (by omega) (by omega))
                  · intro h39; omega
                · intro h40
                  refine zw_push zr_44_20 ?_
                  refine zw_42 zr_44_21 ?_
                  refine zw_R zr_44_25 (by decide) zm_44 (v := (0, 1)) (zRetB (by omega)) ?_
                  rw [← hQ1]
                  show zW E (d) 56 31 [(2, 1), (0, a0), (0, a1), (0, i1), (0, i2)] [(0, 1)] m0 Q
                  refine zw_40_1 zr_56_31 ?_ ?_
                  · intro h41; omega
                  · intro h42
                    refine zw_15 (c := 1) (L' := [(2, 1), (0, a0), (0, a1), (0, (i1 + 1)), (0, i2)]) zr_56_34 rfl (by decide) (by omega) rfl ?_
                    refine zw_15 (c := 1) (L' := [(2, 1), (0, a0), (0, a1), (0, (i1 + 1)), (0, (i2 + 1))]) zr_56_37 rfl (by decide) (by omega) rfl ?_
                    refine zw_42 zr_56_40 ?_
                    exact zw_less (L := [(2, 1), (0, a0), (0, a1), (0, (i1 + 1)), (0, (i2 + 1))]) ⟨Or.inr rfl, Or.inr rfl, Or.inr rfl, Or.inr rfl, Or.inr rfl, trivial⟩ (ihlp5_3 ((i1 + 1)) ((i2 + 1))  (by omega) (by omega) (by omega) (by omega) (by omega) (by omega) (by omega) (by omega))
  exact lp5_3 _ (0) (0)  (by omega) (by omega) (by omega) (by omega) (by omega) (by simp only [mtc, Int.toNat_zero]) (by have := ib_1_1 hI0; omega) (Nat.lt_succ_self _)

set_option maxHeartbeats 8000000 in
theorem th_57 {E : zE} {d : Nat} {m0 : zM} {a0 : Int} {a1 : Int} (hd : 2 ≤ d) (hI0 : zInv m0) (ha0 : 0 ≤ a0 ∧ a0 ≤ 9) (ha1 : 0 ≤ a1 ∧ a1 ≤ 9) : zC E d 57 [(2, 1), (0, a0), (0, a1)] m0 (fun v m' => ∃ r : Int, v = (0, r) ∧ (-2147483648) ≤ r ∧ r ≤ 2147483647 ∧ m0 = m') := by
  generalize hQ : (fun (v : zV) (m' : zM) => ∃ r : Int, v = (0, r) ∧ (-2147483648) ≤ r ∧ r ≤ 2147483647 ∧ m0 = m') = Q
  show zW E d 57 0 [(2, 1), (0, a0), (0, a1), (9, 0), (9, 0)] [] m0 Q
  refine zw_push zr_57_0 ?_
  refine zw_9 (L' := [(2, 1), (0, a0), (0, a1), (0, 0), (9, 0)]) zr_57_1 (Nat.le_of_ble_eq_true rfl) rfl ?_
  refine zw_push zr_57_2 ?_
  refine zw_10 (L' := [(2, 1), (0, a0), (0, a1), (0, 0), (0, 0)]) zr_57_3 (Nat.le_of_ble_eq_true rfl) rfl ?_
  have lp5_3 : ∀ (nlp5_3 : Nat) (i1 i2 : Int), (-2147483648) ≤ i1 → i1 ≤ 2147483647 → 0 ≤ i2 → i2 ≤ 60 → (60 - i2).toNat < nlp5_3 → zW E (d) 57 5 [(2, 1), (0, a0), (0, a1), (0, i1), (0, i2)] [] m0 Q := by
    intro nlp5_3
    induction nlp5_3 with
    | zero =>
      intros
      exact absurd (by assumption : _ < 0) (Nat.not_lt_zero _)
    | succ nlp5_3 ihlp5_3 =>
      intro i1 i2 li1 ui1 li2 ui2 hmlp5_3
      refine zw_4 zr_57_5 rfl ?_
      refine zw_7 zr_57_7 rfl ?_
      obtain ⟨f5, ef5⟩ : ∃ v, m0 1 1 = v := ⟨_, rfl⟩
      have bf5 := ib_1_1 hI0
      rw [ef5] at bf5
      refine zw_46i zr_57_8 ef5 rfl rfl rfl ?_
      refine zw_41_3 zr_57_11 ?_ ?_
      · intro h6
        refine zw_3 zr_57_54 rfl ?_
        refine zw_R zr_57_55 (by decide) zm_57 (v := (0, i1)) rfl ?_
        rw [← hQ]; exact ⟨_, rfl, by omega, by omega, rfl⟩
      · intro h7
        refine zw_7 zr_57_14 rfl ?_
        refine zw_4 zr_57_15 rfl ?_
        refine zw_3 zr_57_17 rfl ?_
        refine zw_C zr_57_18 (Or.inl rfl) zm_44 rfl rfl ⟨Nat.le_of_ble_eq_true rfl, Nat.le_of_ble_eq_true rfl, Nat.le_of_ble_eq_true rfl, rfl, by decide⟩ (by omega) (P := (fun v m' => zW E (d) 57 21 [(2, 1), (0, a0), (0, a1), (0, i1), (0, i2)] (if v.1 = 9 then [] else v :: []) m' Q)) ?_ (fun _ _ h => h)
        generalize hQ1 : (fun v m' => zW E (d) 57 21 [(2, 1), (0, a0), (0, a1), (0, i1), (0, i2)] (if v.1 = 9 then [] else v :: []) m' Q) = Q1
        show zW E (d - 1) 44 0 [(2, 1), (0, i2), (0, a0)] [] m0 Q1
        refine zw_7 zr_44_0 rfl ?_
        refine zw_46r (s := 6) zr_44_1 rfl rfl rfl rfl ?_
        refine zw_3 zr_44_4 rfl ?_
        refine zw_48 (c := 6) (len := 60) zr_44_5 rfl rfl (by omega) (by omega) ?_
        intro x8 ex8
        have bx8 := ib_6 hI0 (k := (i2).toNat) (by omega)
        rw [← ex8] at bx8
        refine zw_3 zr_44_6 rfl ?_
        refine zw_41_1 zr_44_7 ?_ ?_
        · intro h9
          refine zw_push zr_44_20 ?_
          refine zw_42 zr_44_21 ?_
          refine zw_R zr_44_25 (by decide) zm_44 (v := (0, 1)) (zRetB (by omega)) ?_
          rw [← hQ1]
          show zW E (d) 57 21 [(2, 1), (0, a0), (0, a1), (0, i1), (0, i2)] [(0, 1)] m0 Q
          refine zw_40_1 zr_57_21 ?_ ?_
          · intro h10; omega
          · intro h11
            refine zw_7 zr_57_24 rfl ?_
            refine zw_4 zr_57_25 rfl ?_
            refine zw_3 zr_57_27 rfl ?_
            refine zw_C zr_57_28 (Or.inl rfl) zm_44 rfl rfl ⟨Nat.le_of_ble_eq_true rfl, Nat.le_of_ble_eq_true rfl, Nat.le_of_ble_eq_true rfl, rfl, by decide⟩ (by omega) (P := (fun v m' => zW E (d) 57 31 [(2, 1), (0, a0), (0, a1), (0, i1), (0, i2)] (if v.1 = 9 then [] else v :: []) m' Q)) ?_ (fun _ _ h => h)
            generalize hQ1 : (fun v m' => zW E (d) 57 31 [(2, 1), (0, a0), (0, a1), (0, i1), (0, i2)] (if v.1 = 9 then [] else v :: []) m' Q) = Q1
            show zW E (d - 1) 44 0 [(2, 1), (0, i2), (0, a1)] [] m0 Q1
            refine zw_7 zr_44_0 rfl ?_
            refine zw_46r (s := 6) zr_44_1 rfl rfl rfl rfl ?_
            refine zw_3 zr_44_4 rfl ?_
            refine zw_48k (c := 6) (len := 60) zr_44_5 rfl rfl (by omega) (by omega) rfl ex8.symm ?_
            refine zw_3 zr_44_6 rfl ?_
            refine zw_41_1 zr_44_7 ?_ ?_
            · intro h12
              refine zw_push zr_44_20 ?_
              refine zw_42 zr_44_21 ?_
              refine zw_R zr_44_25 (by decide) zm_44 (v := (0, 1)) (zRetB (by omega)) ?_
              rw [← hQ1]
              show zW E (d) 57 31 [(2, 1), (0, a0), (0, a1), (0, i1), (0, i2)] [(0, 1)] m0 Q
              refine zw_40_1 zr_57_31 ?_ ?_
              · intro h13; omega
              · intro h14
                refine zw_7 zr_57_34 rfl ?_
                refine zw_46r (s := 8) zr_57_35 rfl rfl rfl rfl ?_
                refine zw_4 zr_57_38 rfl ?_
                refine zw_48 (c := 8) (len := 60) zr_57_40 rfl rfl (by omega) (by omega) ?_
                intro x15 ex15
                have bx15 := ib_8 hI0 (k := (i2).toNat) (by omega)
                rw [← ex15] at bx15
                clear ex15
                refine zw_push zr_57_41 ?_
                refine zw_41_4 zr_57_42 ?_ ?_
                · intro h16
                  refine zw_15 (c := 1) (L' := [(2, 1), (0, a0), (0, a1), (0, i1), (0, (i2 + 1))]) zr_57_48 rfl (by decide) (by omega) rfl ?_
                  refine zw_42 zr_57_51 ?_
                  exact zw_less (L := [(2, 1), (0, a0), (0, a1), (0, i1), (0, (i2 + 1))]) ⟨Or.inr rfl, Or.inr rfl, Or.inr rfl, Or.inr rfl, Or.inr rfl, trivial⟩ (ihlp5_3 (i1) ((i2 + 1))  (by omega) (by omega) (by omega) (by omega)  (by omega))
                · intro h17
                  refine zw_15h (L' := fun r => [(2, 1), (0, a0), (0, a1), (0, r), (0, i2)]) zr_57_45 rfl (fun _ => rfl) ?_
                  intro x18 hx18a hx18b
                  show zW E (d) 57 48 [(2, 1), (0, a0), (0, a1), (0, x18), (0, i2)] [] m0 Q
                  refine zw_15 (c := 1) (L' := [(2, 1), (0, a0), (0, a1), (0, x18), (0, (i2 + 1))]) zr_57_48 rfl (by decide) (by omega) rfl ?_
                  refine zw_42 zr_57_51 ?_
                  exact zw_less (L := [(2, 1), (0, a0), (0, a1), (0, x18), (0, (i2 + 1))]) ⟨Or.inr rfl, Or.inr rfl, Or.inr rfl, Or.inr rfl, Or.inr rfl, trivial⟩ (ihlp5_3 (x18) ((i2 + 1))  (by omega) (by omega) (by omega) (by omega)  (by omega))
            · intro h19
              refine zw_7 zr_44_10 rfl ?_
              refine zw_46r (s := 7) zr_44_11 rfl rfl rfl rfl ?_
              refine zw_3 zr_44_14 rfl ?_
              refine zw_48 (c := 7) (len := 60) zr_44_15 rfl rfl (by omega) (by omega) ?_
              intro x20 ex20
              have bx20 := ib_7 hI0 (k := (i2).toNat) (by omega)
              rw [← ex20] at bx20
              refine zw_3 zr_44_16 rfl ?_
              refine zw_41_4 zr_44_17 ?_ ?_
              · intro h21
                refine zw_push zr_44_24 ?_
                refine zw_R zr_44_25 (by decide) zm_44 (v := (0, 0)) (zRetB (by omega)) ?_
                rw [← hQ1]
                show zW E (d) 57 31 [(2, 1), (0, a0), (0, a1), (0, i1), (0, i2)] [(0, 0)] m0 Q
                refine zw_40_1 zr_57_31 ?_ ?_
                · intro h22
                  refine zw_15 (c := 1) (L' := [(2, 1), (0, a0), (0, a1), (0, i1), (0, (i2 + 1))]) zr_57_48 rfl (by decide) (by omega) rfl ?_
                  refine zw_42 zr_57_51 ?_
                  exact zw_less (L := [(2, 1), (0, a0), (0, a1), (0, i1), (0, (i2 + 1))]) ⟨Or.inr rfl, Or.inr rfl, Or.inr rfl, Or.inr rfl, Or.inr rfl, trivial⟩ (ihlp5_3 (i1) ((i2 + 1))  (by omega) (by omega) (by omega) (by omega)  (by omega))
                · intro h23; omega
              · intro h24
                refine zw_push zr_44_20 ?_
                refine zw_42 zr_44_21 ?_
                refine zw_R zr_44_25 (by decide) zm_44 (v := (0, 1)) (zRetB (by omega)) ?_
                rw [← hQ1]
                show zW E (d) 57 31 [(2, 1), (0, a0), (0, a1), (0, i1), (0, i2)] [(0, 1)] m0 Q
                refine zw_40_1 zr_57_31 ?_ ?_
                · intro h25; omega
                · intro h26
                  refine zw_7 zr_57_34 rfl ?_
                  refine zw_46r (s := 8) zr_57_35 rfl rfl rfl rfl ?_
                  refine zw_4 zr_57_38 rfl ?_
                  refine zw_48 (c := 8) (len := 60) zr_57_40 rfl rfl (by omega) (by omega) ?_
                  intro x27 ex27
                  have bx27 := ib_8 hI0 (k := (i2).toNat) (by omega)
                  rw [← ex27] at bx27
                  clear ex27
                  refine zw_push zr_57_41 ?_
                  refine zw_41_4 zr_57_42 ?_ ?_
                  · intro h28
                    refine zw_15 (c := 1) (L' := [(2, 1), (0, a0), (0, a1), (0, i1), (0, (i2 + 1))]) zr_57_48 rfl (by decide) (by omega) rfl ?_
                    refine zw_42 zr_57_51 ?_
                    exact zw_less (L := [(2, 1), (0, a0), (0, a1), (0, i1), (0, (i2 + 1))]) ⟨Or.inr rfl, Or.inr rfl, Or.inr rfl, Or.inr rfl, Or.inr rfl, trivial⟩ (ihlp5_3 (i1) ((i2 + 1))  (by omega) (by omega) (by omega) (by omega)  (by omega))
                  · intro h29
                    refine zw_15h (L' := fun r => [(2, 1), (0, a0), (0, a1), (0, r), (0, i2)]) zr_57_45 rfl (fun _ => rfl) ?_
                    intro x30 hx30a hx30b
                    show zW E (d) 57 48 [(2, 1), (0, a0), (0, a1), (0, x30), (0, i2)] [] m0 Q
                    refine zw_15 (c := 1) (L' := [(2, 1), (0, a0), (0, a1), (0, x30), (0, (i2 + 1))]) zr_57_48 rfl (by decide) (by omega) rfl ?_
                    refine zw_42 zr_57_51 ?_
                    exact zw_less (L := [(2, 1), (0, a0), (0, a1), (0, x30), (0, (i2 + 1))]) ⟨Or.inr rfl, Or.inr rfl, Or.inr rfl, Or.inr rfl, Or.inr rfl, trivial⟩ (ihlp5_3 (x30) ((i2 + 1))  (by omega) (by omega) (by omega) (by omega)  (by omega))
        · intro h31
          refine zw_7 zr_44_10 rfl ?_
          refine zw_46r (s := 7) zr_44_11 rfl rfl rfl rfl ?_
          refine zw_3 zr_44_14 rfl ?_
          refine zw_48 (c := 7) (len := 60) zr_44_15 rfl rfl (by omega) (by omega) ?_
          intro x32 ex32
          have bx32 := ib_7 hI0 (k := (i2).toNat) (by omega)
          rw [← ex32] at bx32
          refine zw_3 zr_44_16 rfl ?_
          refine zw_41_4 zr_44_17 ?_ ?_
          · intro h33
            refine zw_push zr_44_24 ?_
            refine zw_R zr_44_25 (by decide) zm_44 (v := (0, 0)) (zRetB (by omega)) ?_
            rw [← hQ1]
            show zW E (d) 57 21 [(2, 1), (0, a0), (0, a1), (0, i1), (0, i2)] [(0, 0)] m0 Q
            refine zw_40_1 zr_57_21 ?_ ?_
            · intro h34
              refine zw_15 (c := 1) (L' := [(2, 1), (0, a0), (0, a1), (0, i1), (0, (i2 + 1))]) zr_57_48 rfl (by decide) (by omega) rfl ?_
              refine zw_42 zr_57_51 ?_
              exact zw_less (L := [(2, 1), (0, a0), (0, a1), (0, i1), (0, (i2 + 1))]) ⟨Or.inr rfl, Or.inr rfl, Or.inr rfl, Or.inr rfl, Or.inr rfl, trivial⟩ (ihlp5_3 (i1) ((i2 + 1))  (by omega) (by omega) (by omega) (by omega)  (by omega))
            · intro h35; omega
          · intro h36
            refine zw_push zr_44_20 ?_
            refine zw_42 zr_44_21 ?_
            refine zw_R zr_44_25 (by decide) zm_44 (v := (0, 1)) (zRetB (by omega)) ?_
            rw [← hQ1]
            show zW E (d) 57 21 [(2, 1), (0, a0), (0, a1), (0, i1), (0, i2)] [(0, 1)] m0 Q
            refine zw_40_1 zr_57_21 ?_ ?_
            · intro h37; omega
            · intro h38
              refine zw_7 zr_57_24 rfl ?_
              refine zw_4 zr_57_25 rfl ?_
              refine zw_3 zr_57_27 rfl ?_
              refine zw_C zr_57_28 (Or.inl rfl) zm_44 rfl rfl ⟨Nat.le_of_ble_eq_true rfl, Nat.le_of_ble_eq_true rfl, Nat.le_of_ble_eq_true rfl, rfl, by decide⟩ (by omega) (P := (fun v m' => zW E (d) 57 31 [(2, 1), (0, a0), (0, a1), (0, i1), (0, i2)] (if v.1 = 9 then [] else v :: []) m' Q)) ?_ (fun _ _ h => h)
              generalize hQ1 : (fun v m' => zW E (d) 57 31 [(2, 1), (0, a0), (0, a1), (0, i1), (0, i2)] (if v.1 = 9 then [] else v :: []) m' Q) = Q1
              show zW E (d - 1) 44 0 [(2, 1), (0, i2), (0, a1)] [] m0 Q1
              refine zw_7 zr_44_0 rfl ?_
              refine zw_46r (s := 6) zr_44_1 rfl rfl rfl rfl ?_
              refine zw_3 zr_44_4 rfl ?_
              refine zw_48k (c := 6) (len := 60) zr_44_5 rfl rfl (by omega) (by omega) rfl ex8.symm ?_
              refine zw_3 zr_44_6 rfl ?_
              refine zw_41_1 zr_44_7 ?_ ?_
              · intro h39
                refine zw_push zr_44_20 ?_
                refine zw_42 zr_44_21 ?_
                refine zw_R zr_44_25 (by decide) zm_44 (v := (0, 1)) (zRetB (by omega)) ?_
                rw [← hQ1]
                show zW E (d) 57 31 [(2, 1), (0, a0), (0, a1), (0, i1), (0, i2)] [(0, 1)] m0 Q
                refine zw_40_1 zr_57_31 ?_ ?_
                · intro h40; omega
                · intro h41
                  refine zw_7 zr_57_34 rfl ?_
                  refine zw_46r (s := 8) zr_57_35 rfl rfl rfl rfl ?_
                  refine zw_4 zr_57_38 rfl ?_
                  refine zw_48 (c := 8) (len := 60) zr_57_40 rfl rfl (by omega) (by omega) ?_
                  intro x42 ex42
                  have bx42 := ib_8 hI0 (k := (i2).toNat) (by omega)
                  rw [← ex42] at bx42
                  clear ex42
                  refine zw_push zr_57_41 ?_
                  refine zw_41_4 zr_57_42 ?_ ?_
                  · intro h43
                    refine zw_15 (c := 1) (L' := [(2, 1), (0, a0), (0, a1), (0, i1), (0, (i2 + 1))]) zr_57_48 rfl (by decide) (by omega) rfl ?_
                    refine zw_42 zr_57_51 ?_
                    exact zw_less (L := [(2, 1), (0, a0), (0, a1), (0, i1), (0, (i2 + 1))]) ⟨Or.inr rfl, Or.inr rfl, Or.inr rfl, Or.inr rfl, Or.inr rfl, trivial⟩ (ihlp5_3 (i1) ((i2 + 1))  (by omega) (by omega) (by omega) (by omega)  (by omega))
                  · intro h44
                    refine zw_15h (L' := fun r => [(2, 1), (0, a0), (0, a1), (0, r), (0, i2)]) zr_57_45 rfl (fun _ => rfl) ?_
                    intro x45 hx45a hx45b
                    show zW E (d) 57 48 [(2, 1), (0, a0), (0, a1), (0, x45), (0, i2)] [] m0 Q
                    refine zw_15 (c := 1) (L' := [(2, 1), (0, a0), (0, a1), (0, x45), (0, (i2 + 1))]) zr_57_48 rfl (by decide) (by omega) rfl ?_
                    refine zw_42 zr_57_51 ?_
                    exact zw_less (L := [(2, 1), (0, a0), (0, a1), (0, x45), (0, (i2 + 1))]) ⟨Or.inr rfl, Or.inr rfl, Or.inr rfl, Or.inr rfl, Or.inr rfl, trivial⟩ (ihlp5_3 (x45) ((i2 + 1))  (by omega) (by omega) (by omega) (by omega)  (by omega))
              · intro h46
                refine zw_7 zr_44_10 rfl ?_
                refine zw_46r (s := 7) zr_44_11 rfl rfl rfl rfl ?_
                refine zw_3 zr_44_14 rfl ?_
                refine zw_48k (c := 7) (len := 60) zr_44_15 rfl rfl (by omega) (by omega) rfl ex32.symm ?_
                refine zw_3 zr_44_16 rfl ?_
                refine zw_41_4 zr_44_17 ?_ ?_
                · intro h47
                  refine zw_push zr_44_24 ?_
                  refine zw_R zr_44_25 (by decide) zm_44 (v := (0, 0)) (zRetB (by omega)) ?_
                  rw [← hQ1]
                  show zW E (d) 57 31 [(2, 1), (0, a0), (0, a1), (0, i1), (0, i2)] [(0, 0)] m0 Q
                  refine zw_40_1 zr_57_31 ?_ ?_
                  · intro h48
                    refine zw_15 (c := 1) (L' := [(2, 1), (0, a0), (0, a1), (0, i1), (0, (i2 + 1))]) zr_57_48 rfl (by decide) (by omega) rfl ?_
                    refine zw_42 zr_57_51 ?_
                    exact zw_less (L := [(2, 1), (0, a0), (0, a1), (0, i1), (0, (i2 + 1))]) ⟨Or.inr rfl, Or.inr rfl, Or.inr rfl, Or.inr rfl, Or.inr rfl, trivial⟩ (ihlp5_3 (i1) ((i2 + 1))  (by omega) (by omega) (by omega) (by omega)  (by omega))
                  · intro h49; omega
                · intro h50
                  refine zw_push zr_44_20 ?_
                  refine zw_42 zr_44_21 ?_
                  refine zw_R zr_44_25 (by decide) zm_44 (v := (0, 1)) (zRetB (by omega)) ?_
                  rw [← hQ1]
                  show zW E (d) 57 31 [(2, 1), (0, a0), (0, a1), (0, i1), (0, i2)] [(0, 1)] m0 Q
                  refine zw_40_1 zr_57_31 ?_ ?_
                  · intro h51; omega
                  · intro h52
                    refine zw_7 zr_57_34 rfl ?_
                    refine zw_46r (s := 8) zr_57_35 rfl rfl rfl rfl ?_
                    refine zw_4 zr_57_38 rfl ?_
                    refine zw_48 (c := 8) (len := 60) zr_57_40 rfl rfl (by omega) (by omega) ?_
                    intro x53 ex53
                    have bx53 := ib_8 hI0 (k := (i2).toNat) (by omega)
                    rw [← ex53] at bx53
                    clear ex53
                    refine zw_push zr_57_41 ?_
                    refine zw_41_4 zr_57_42 ?_ ?_
                    · intro h54
                      refine zw_15 (c := 1) (L' := [(2, 1), (0, a0), (0, a1), (0, i1), (0, (i2 + 1))]) zr_57_48 rfl (by decide) (by omega) rfl ?_
                      refine zw_42 zr_57_51 ?_
                      exact zw_less (L := [(2, 1), (0, a0), (0, a1), (0, i1), (0, (i2 + 1))]) ⟨Or.inr rfl, Or.inr rfl, Or.inr rfl, Or.inr rfl, Or.inr rfl, trivial⟩ (ihlp5_3 (i1) ((i2 + 1))  (by omega) (by omega) (by omega) (by omega)  (by omega))
                    · intro h55
                      refine zw_15h (L' := fun r => [(2, 1), (0, a0), (0, a1), (0, r), (0, i2)]) zr_57_45 rfl (fun _ => rfl) ?_
                      intro x56 hx56a hx56b
                      show zW E (d) 57 48 [(2, 1), (0, a0), (0, a1), (0, x56), (0, i2)] [] m0 Q
                      refine zw_15 (c := 1) (L' := [(2, 1), (0, a0), (0, a1), (0, x56), (0, (i2 + 1))]) zr_57_48 rfl (by decide) (by omega) rfl ?_
                      refine zw_42 zr_57_51 ?_
                      exact zw_less (L := [(2, 1), (0, a0), (0, a1), (0, x56), (0, (i2 + 1))]) ⟨Or.inr rfl, Or.inr rfl, Or.inr rfl, Or.inr rfl, Or.inr rfl, trivial⟩ (ihlp5_3 (x56) ((i2 + 1))  (by omega) (by omega) (by omega) (by omega)  (by omega))
  exact lp5_3 _ (0) (0)  (by omega) (by omega) (by omega) (by omega)  (Nat.lt_succ_self _)

set_option maxHeartbeats 8000000 in
theorem th_1 {E : zE} {d : Nat} {m0 : zM} {a0 : Int} {a1 : Int} (hd : 1 ≤ d) (hI0 : zInv m0) (ha0 : (-2147483648) ≤ a0 ∧ a0 ≤ 2147483646) (ha1 : (-50) ≤ a1 ∧ a1 ≤ 15) : zC E d 1 [(0, a0), (0, a1)] m0 (fun v m' => ∃ r : Int, v = (1, r) ∧ (-9223372036854775808) ≤ r ∧ r ≤ 9223372036854775807 ∧ m0 = m') := by
  generalize hQ : (fun (v : zV) (m' : zM) => ∃ r : Int, v = (1, r) ∧ (-9223372036854775808) ≤ r ∧ r ≤ 9223372036854775807 ∧ m0 = m') = Q
  show zW E d 1 0 [(0, a0), (0, a1), (9, 0), (9, 0), (9, 0)] [] m0 Q
  refine zw_push zr_1_0 ?_
  refine zw_13 (L' := [(0, a0), (0, a1), (1, 1), (9, 0), (9, 0)]) zr_1_1 (Nat.le_of_ble_eq_true rfl) rfl ?_
  refine zw_push zr_1_2 ?_
  refine zw_10 (L' := [(0, a0), (0, a1), (1, 1), (9, 0), (0, 0)]) zr_1_3 (Nat.le_of_ble_eq_true rfl) rfl ?_
  have lp5_3 : ∀ (nlp5_3 : Nat) (i1 i2 : Int), (-9223372036854775808) ≤ i1 → i1 ≤ 9223372036854775807 → 0 ≤ i2 → i2 ≤ 15 → (15 - i2).toNat < nlp5_3 → zW E (d) 1 5 [(0, a0), (0, a1), (1, i1), (9, 0), (0, i2)] [] m0 Q := by
    intro nlp5_3
    induction nlp5_3 with
    | zero =>
      intros
      exact absurd (by assumption : _ < 0) (Nat.not_lt_zero _)
    | succ nlp5_3 ihlp5_3 =>
      intro i1 i2 li1 ui1 li2 ui2 hmlp5_3
      refine zw_4 zr_1_5 rfl ?_
      refine zw_3 zr_1_7 rfl ?_
      refine zw_41_3 zr_1_8 ?_ ?_
      · intro h5
        refine zw_5 zr_1_22 rfl ?_
        refine zw_R zr_1_23 (by decide) zm_1 (v := (1, i1)) rfl ?_
        rw [← hQ]; exact ⟨_, rfl, by omega, by omega, rfl⟩
      · intro h6
        refine zw_5 zr_1_11 rfl ?_
        refine zw_3 zr_1_12 rfl ?_
        refine zw_36 zr_1_13 ?_
        refine zw_29h zr_1_14 ?_
        intro x7 hx7a hx7b
        refine zw_13 (L' := [(0, a0), (0, a1), (1, x7), (9, 0), (0, i2)]) zr_1_15 (Nat.le_of_ble_eq_true rfl) rfl ?_
        refine zw_15 (c := 1) (L' := [(0, a0), (0, a1), (1, x7), (9, 0), (0, (i2 + 1))]) zr_1_16 rfl (by decide) (by omega) rfl ?_
        refine zw_42 zr_1_19 ?_
        exact zw_less (L := [(0, a0), (0, a1), (1, x7), (9, 0), (0, (i2 + 1))]) ⟨Or.inr rfl, Or.inr rfl, Or.inr rfl, Or.inl rfl, Or.inr rfl, trivial⟩ (ihlp5_3 (x7) ((i2 + 1))  (by omega) (by omega) (by omega) (by omega)  (by omega))
  exact lp5_3 _ (1) (0)  (by omega) (by omega) (by omega) (by omega)  (Nat.lt_succ_self _)

set_option maxHeartbeats 8000000 in
theorem th_2 {E : zE} {d : Nat} {m0 : zM} {a0 : Int} {a1 : Int} {a2 : Int} {a3 : Int} (hd : 2 ≤ d) (hI0 : zInv m0) (ha0 : 1 ≤ a0 ∧ a0 ≤ 15) (ha1 : (-2147483648) ≤ a1 ∧ a1 ≤ 2147483647) (ha2 : 1 ≤ a2 ∧ a2 ≤ 2147483646) (ha3 : 2 ≤ a3 ∧ a3 ≤ 9) : zC E d 2 [(0, a0), (0, a1), (0, a2), (0, a3)] m0 (fun v m' => ∃ r : Int, v = (1, r) ∧ (-9223372036854775808) ≤ r ∧ r ≤ 9223372036854775807 ∧ m0 = m') := by
  generalize hQ : (fun (v : zV) (m' : zM) => ∃ r : Int, v = (1, r) ∧ (-9223372036854775808) ≤ r ∧ r ≤ 9223372036854775807 ∧ m0 = m') = Q
  show zW E d 2 0 [(0, a0), (0, a1), (0, a2), (0, a3), (9, 0), (9, 0), (9, 0), (9, 0), (9, 0)] [] m0 Q
  refine zw_push zr_2_0 ?_
  refine zw_14 (L' := [(0, a0), (0, a1), (0, a2), (0, a3), (1, 0), (9, 0), (9, 0), (9, 0), (9, 0)]) zr_2_1 (Nat.le_of_ble_eq_true rfl) rfl ?_
  refine zw_push zr_2_3 ?_
  refine zw_14 (L' := [(0, a0), (0, a1), (0, a2), (0, a3), (1, 0), (9, 0), (1, 1), (9, 0), (9, 0)]) zr_2_4 (Nat.le_of_ble_eq_true rfl) rfl ?_
  refine zw_push zr_2_6 ?_
  refine zw_10 (L' := [(0, a0), (0, a1), (0, a2), (0, a3), (1, 0), (9, 0), (1, 1), (9, 0), (0, 0)]) zr_2_7 (Nat.le_of_ble_eq_true rfl) rfl ?_
  have lp9_4 : ∀ (nlp9_4 : Nat) (i1 i2 i3 : Int), (-9223372036854775808) ≤ i1 → i1 ≤ 9223372036854775807 → (-9223372036854775808) ≤ i2 → i2 ≤ 9223372036854775807 → 0 ≤ i3 → i3 ≤ 16 → (16 - i3).toNat < nlp9_4 → zW E (d) 2 9 [(0, a0), (0, a1), (0, a2), (0, a3), (1, i1), (9, 0), (1, i2), (9, 0), (0, i3)] [] m0 Q := by
    intro nlp9_4
    induction nlp9_4 with
    | zero =>
      intros
      exact absurd (by assumption : _ < 0) (Nat.not_lt_zero _)
    | succ nlp9_4 ihlp9_4 =>
      intro i1 i2 i3 li1 ui1 li2 ui2 li3 ui3 hmlp9_4
      refine zw_4 zr_2_9 rfl ?_
      refine zw_3 zr_2_11 rfl ?_
      refine zw_41_2 zr_2_12 ?_ ?_
      · intro h6
        refine zw_6 zr_2_68 rfl ?_
        refine zw_R zr_2_70 (by decide) zm_2 (v := (1, i1)) rfl ?_
        rw [← hQ]; exact ⟨_, rfl, by omega, by omega, rfl⟩
      · intro h7
        refine zw_4 zr_2_15 rfl ?_
        refine zw_3 zr_2_17 rfl ?_
        refine zw_41_0 zr_2_18 ?_ ?_
        · intro h8
          refine zw_6 zr_2_46 rfl ?_
          refine zw_3 zr_2_48 rfl ?_
          refine zw_4 zr_2_49 rfl ?_
          refine zw_17 zr_2_51 (by omega) ?_
          refine zw_36 zr_2_52 ?_
          refine zw_29h zr_2_53 ?_
          intro x9 hx9a hx9b
          refine zw_4 zr_2_54 rfl ?_
          refine zw_push zr_2_56 ?_
          refine zw_16 zr_2_57 (by omega) ?_
          refine zw_36 zr_2_58 ?_
          refine zw_118h zr_2_59 (by omega) ?_
          intro x10 hx10a hx10b
          refine zw_14 (L' := [(0, a0), (0, a1), (0, a2), (0, a3), (1, i1), (9, 0), (1, x10), (9, 0), (0, i3)]) zr_2_60 (Nat.le_of_ble_eq_true rfl) rfl ?_
          refine zw_15 (c := 1) (L' := [(0, a0), (0, a1), (0, a2), (0, a3), (1, i1), (9, 0), (1, x10), (9, 0), (0, (i3 + 1))]) zr_2_62 rfl (by decide) (by omega) rfl ?_
          refine zw_42 zr_2_65 ?_
          exact zw_less (L := [(0, a0), (0, a1), (0, a2), (0, a3), (1, i1), (9, 0), (1, x10), (9, 0), (0, (i3 + 1))]) ⟨Or.inr rfl, Or.inr rfl, Or.inr rfl, Or.inr rfl, Or.inr rfl, Or.inl rfl, Or.inr rfl, Or.inl rfl, Or.inr rfl, trivial⟩ (ihlp9_4 (i1) (x10) ((i3 + 1))  (by omega) (by omega) (by omega) (by omega) (by omega) (by omega)  (by omega))
        · intro h11
          refine zw_6 zr_2_21 rfl ?_
          refine zw_6 zr_2_23 rfl ?_
          refine zw_3 zr_2_25 rfl ?_
          refine zw_4 zr_2_26 rfl ?_
          refine zw_C zr_2_28 (Or.inr rfl) zm_1 rfl rfl ⟨Nat.le_of_ble_eq_true rfl, Nat.le_of_ble_eq_true rfl, Nat.le_of_ble_eq_true rfl, rfl, by decide⟩ (by omega) (th_1 (d := d - 1) (by omega) hI0 (a0 := a2) (a1 := i3)      (by omega) (by omega) ) ?_
          rintro _ _ ⟨r12, rfl, hr12a, hr12b, rfl⟩
          show zW E (d) 2 31 [(0, a0), (0, a1), (0, a2), (0, a3), (1, i1), (9, 0), (1, i2), (9, 0), (0, i3)] [(1, r12), (1, i2), (1, i1)] m0 Q
          refine zw_29h zr_2_31 ?_
          intro x13 hx13a hx13b
          refine zw_3 zr_2_32 rfl ?_
          refine zw_3 zr_2_33 rfl ?_
          refine zw_17 zr_2_34 (by omega) ?_
          refine zw_3 zr_2_35 rfl ?_
          refine zw_4 zr_2_36 rfl ?_
          refine zw_17 zr_2_38 (by omega) ?_
          refine zw_C zr_2_39 (Or.inr rfl) zm_1 rfl rfl ⟨Nat.le_of_ble_eq_true rfl, Nat.le_of_ble_eq_true rfl, Nat.le_of_ble_eq_true rfl, rfl, by decide⟩ (by omega) (th_1 (d := d - 1) (by omega) hI0 (a0 := (a3 - a2)) (a1 := (a0 - i3))      (by omega) (by omega) ) ?_
          rintro _ _ ⟨r14, rfl, hr14a, hr14b, rfl⟩
          show zW E (d) 2 42 [(0, a0), (0, a1), (0, a2), (0, a3), (1, i1), (9, 0), (1, i2), (9, 0), (0, i3)] [(1, r14), (1, x13), (1, i1)] m0 Q
          refine zw_29h zr_2_42 ?_
          intro x15 hx15a hx15b
          refine zw_27h zr_2_43 ?_
          intro x16 hx16a hx16b
          refine zw_14 (L' := [(0, a0), (0, a1), (0, a2), (0, a3), (1, x16), (9, 0), (1, i2), (9, 0), (0, i3)]) zr_2_44 (Nat.le_of_ble_eq_true rfl) rfl ?_
          refine zw_6 zr_2_46 rfl ?_
          refine zw_3 zr_2_48 rfl ?_
          refine zw_4 zr_2_49 rfl ?_
          refine zw_17 zr_2_51 (by omega) ?_
          refine zw_36 zr_2_52 ?_
          refine zw_29h zr_2_53 ?_
          intro x17 hx17a hx17b
          refine zw_4 zr_2_54 rfl ?_
          refine zw_push zr_2_56 ?_
          refine zw_16 zr_2_57 (by omega) ?_
          refine zw_36 zr_2_58 ?_
          refine zw_118h zr_2_59 (by omega) ?_
          intro x18 hx18a hx18b
          refine zw_14 (L' := [(0, a0), (0, a1), (0, a2), (0, a3), (1, x16), (9, 0), (1, x18), (9, 0), (0, i3)]) zr_2_60 (Nat.le_of_ble_eq_true rfl) rfl ?_
          refine zw_15 (c := 1) (L' := [(0, a0), (0, a1), (0, a2), (0, a3), (1, x16), (9, 0), (1, x18), (9, 0), (0, (i3 + 1))]) zr_2_62 rfl (by decide) (by omega) rfl ?_
          refine zw_42 zr_2_65 ?_
          exact zw_less (L := [(0, a0), (0, a1), (0, a2), (0, a3), (1, x16), (9, 0), (1, x18), (9, 0), (0, (i3 + 1))]) ⟨Or.inr rfl, Or.inr rfl, Or.inr rfl, Or.inr rfl, Or.inr rfl, Or.inl rfl, Or.inr rfl, Or.inl rfl, Or.inr rfl, trivial⟩ (ihlp9_4 (x16) (x18) ((i3 + 1))  (by omega) (by omega) (by omega) (by omega) (by omega) (by omega)  (by omega))
  exact lp9_4 _ (0) (1) (0)  (by omega) (by omega) (by omega) (by omega) (by omega) (by omega)  (Nat.lt_succ_self _)

abbrev W_126 : List (Nat × Nat) := [(42, 0), (42, 1)]
set_option maxHeartbeats 8000000 in
theorem th_126 {E : zE} {d : Nat} {m0 : zM} {a0 : Int} {a1 : Int} {a2 : Int} {a3 : Int} {g0 : Int} {F6 : Nat → Int} {F7 : Nat → Int} (hd : 3 ≤ d) (hI0 : zInv m0) (hg0 : m0 1 0 = g0) (hG6 : m0 6 = F6) (hG7 : m0 7 = F7) (ha0 : (-2147483648) ≤ a0 ∧ a0 ≤ 2147483647) (ha1 : (-2147483648) ≤ a1 ∧ a1 ≤ 2147483647) (ha2 : (-2147483648) ≤ a2 ∧ a2 ≤ 2147483647) (ha3 : (-2147483648) ≤ a3 ∧ a3 ≤ 2147483647) : zC E d 126 [(2, 0), (0, a0), (0, a1), (0, a2), (0, a3)] m0 (fun v m' => ∃ r : Int, v = (0, r) ∧ (-3) ≤ r ∧ r ≤ 1 ∧ zInv m' ∧ zFr W_126 m0 m' ∧ ((r = -2 ∧ (a0 < 0 ∨ g0 ≤ a0 ∨ a1 < 0 ∨ g0 ≤ a1 ∨ a0 = a1 ∨ a2 < 1 ∨ a3 ≤ a2 ∨ 9 < a3)) ∨ (0 ≤ a0 ∧ a0 < g0 ∧ 0 ≤ a1 ∧ a1 < g0 ∧ a0 ≠ a1 ∧ 1 ≤ a2 ∧ a2 < a3 ∧ a3 ≤ 9 ∧ ((r = 1 ∧ 1 ≤ mtc F6 F7 a0 a1 (m0 1 1).toNat ∧ mtc F6 F7 a0 a1 (m0 1 1).toNat ≤ 15) ∨ (r = -3 ∧ (mtc F6 F7 a0 a1 (m0 1 1).toNat < 1 ∨ 15 < mtc F6 F7 a0 a1 (m0 1 1).toNat)))))) := by
  have hF0 : zFr W_126 m0 m0 := zFr.rfl
  have bg0 := ib_1_0 hI0
  rw [hg0] at bg0
  generalize hQ : (fun (v : zV) (m' : zM) => ∃ r : Int, v = (0, r) ∧ (-3) ≤ r ∧ r ≤ 1 ∧ zInv m' ∧ zFr W_126 m0 m' ∧ ((r = -2 ∧ (a0 < 0 ∨ g0 ≤ a0 ∨ a1 < 0 ∨ g0 ≤ a1 ∨ a0 = a1 ∨ a2 < 1 ∨ a3 ≤ a2 ∨ 9 < a3)) ∨ (0 ≤ a0 ∧ a0 < g0 ∧ 0 ≤ a1 ∧ a1 < g0 ∧ a0 ≠ a1 ∧ 1 ≤ a2 ∧ a2 < a3 ∧ a3 ≤ 9 ∧ ((r = 1 ∧ 1 ≤ mtc F6 F7 a0 a1 (m0 1 1).toNat ∧ mtc F6 F7 a0 a1 (m0 1 1).toNat ≤ 15) ∨ (r = -3 ∧ (mtc F6 F7 a0 a1 (m0 1 1).toNat < 1 ∨ 15 < mtc F6 F7 a0 a1 (m0 1 1).toNat)))))) = Q
  show zW E d 126 0 [(2, 0), (0, a0), (0, a1), (0, a2), (0, a3), (9, 0)] [] m0 Q
  refine zw_7 zr_126_0 rfl ?_
  refine zw_46r (s := 1) zr_126_1 rfl rfl rfl rfl ?_
  refine zw_3 zr_126_4 rfl ?_
  refine zw_3 zr_126_5 rfl ?_
  refine zw_C zr_126_6 (Or.inl rfl) zm_50 rfl rfl ⟨Nat.le_of_ble_eq_true rfl, Nat.le_of_ble_eq_true rfl, Nat.le_of_ble_eq_true rfl, rfl, by decide⟩ (by omega) (P := (fun v m' => zW E (d) 126 9 [(2, 0), (0, a0), (0, a1), (0, a2), (0, a3), (9, 0)] (if v.1 = 9 then [] else v :: []) m' Q)) ?_ (fun _ _ h => h)
  generalize hQ1 : (fun v m' => zW E (d) 126 9 [(2, 0), (0, a0), (0, a1), (0, a2), (0, a3), (9, 0)] (if v.1 = 9 then [] else v :: []) m' Q) = Q1
  show zW E (d - 1) 50 0 [(2, 1), (0, a0), (0, a1)] [] m0 Q1
  refine zw_7 zr_50_0 rfl ?_
  refine zw_3 zr_50_1 rfl ?_
  refine zw_C zr_50_2 (Or.inl rfl) zm_49 rfl rfl ⟨Nat.le_of_ble_eq_true rfl, Nat.le_of_ble_eq_true rfl, Nat.le_of_ble_eq_true rfl, rfl, by decide⟩ (by omega) (P := (fun v m' => zW E (d - 1) 50 5 [(2, 1), (0, a0), (0, a1)] (if v.1 = 9 then [] else v :: []) m' Q1)) ?_ (fun _ _ h => h)
  generalize hQ2 : (fun v m' => zW E (d - 1) 50 5 [(2, 1), (0, a0), (0, a1)] (if v.1 = 9 then [] else v :: []) m' Q1) = Q2
  show zW E (d - 1 - 1) 49 0 [(2, 1), (0, a0)] [] m0 Q2
  refine zw_3 zr_49_0 rfl ?_
  refine zw_40_0 zr_49_1 ?_ ?_
  · intro h1
    refine zw_push zr_49_16 ?_
    refine zw_R zr_49_17 (by decide) zm_49 (v := (0, 0)) (zRetB (by omega)) ?_
    rw [← hQ2]
    show zW E (d - 1) 50 5 [(2, 1), (0, a0), (0, a1)] [(0, 0)] m0 Q1
    refine zw_40_1 zr_50_5 ?_ ?_
    · intro h2
      refine zw_push zr_50_25 ?_
      refine zw_R zr_50_26 (by decide) zm_50 (v := (0, 0)) (zRetB (by omega)) ?_
      rw [← hQ1]
      show zW E (d) 126 9 [(2, 0), (0, a0), (0, a1), (0, a2), (0, a3), (9, 0)] [(0, 0)] m0 Q
      refine zw_40_1 zr_126_9 ?_ ?_
      · intro h3
        refine zw_push zr_126_30 ?_
        refine zw_R zr_126_32 (by decide) zm_126 (v := (0, (-2))) rfl ?_
        rw [← hQ]; exact ⟨_, rfl, by omega, by omega, hI0, hF0, by omega⟩
      · intro h5; omega
    · intro h6; omega
  · intro h7
    refine zw_3 zr_49_4 rfl ?_
    refine zw_7 zr_49_5 rfl ?_
    refine zw_46i zr_49_6 hg0 rfl rfl rfl ?_
    refine zw_41_3 zr_49_9 ?_ ?_
    · intro h8
      refine zw_push zr_49_16 ?_
      refine zw_R zr_49_17 (by decide) zm_49 (v := (0, 0)) (zRetB (by omega)) ?_
      rw [← hQ2]
      show zW E (d - 1) 50 5 [(2, 1), (0, a0), (0, a1)] [(0, 0)] m0 Q1
      refine zw_40_1 zr_50_5 ?_ ?_
      · intro h9
        refine zw_push zr_50_25 ?_
        refine zw_R zr_50_26 (by decide) zm_50 (v := (0, 0)) (zRetB (by omega)) ?_
        rw [← hQ1]
        show zW E (d) 126 9 [(2, 0), (0, a0), (0, a1), (0, a2), (0, a3), (9, 0)] [(0, 0)] m0 Q
        refine zw_40_1 zr_126_9 ?_ ?_
        · intro h10
          refine zw_push zr_126_30 ?_
          refine zw_R zr_126_32 (by decide) zm_126 (v := (0, (-2))) rfl ?_
          rw [← hQ]; exact ⟨_, rfl, by omega, by omega, hI0, hF0, by omega⟩
        · intro h12; omega
      · intro h13; omega
    · intro h14
      refine zw_push zr_49_12 ?_
      refine zw_42 zr_49_13 ?_
      refine zw_R zr_49_17 (by decide) zm_49 (v := (0, 1)) (zRetB (by omega)) ?_
      rw [← hQ2]
      show zW E (d - 1) 50 5 [(2, 1), (0, a0), (0, a1)] [(0, 1)] m0 Q1
      refine zw_40_1 zr_50_5 ?_ ?_
      · intro h15; omega
      · intro h16
        refine zw_7 zr_50_8 rfl ?_
        refine zw_3 zr_50_9 rfl ?_
        refine zw_C zr_50_10 (Or.inl rfl) zm_49 rfl rfl ⟨Nat.le_of_ble_eq_true rfl, Nat.le_of_ble_eq_true rfl, Nat.le_of_ble_eq_true rfl, rfl, by decide⟩ (by omega) (P := (fun v m' => zW E (d - 1) 50 13 [(2, 1), (0, a0), (0, a1)] (if v.1 = 9 then [] else v :: []) m' Q1)) ?_ (fun _ _ h => h)
        generalize hQ2 : (fun v m' => zW E (d - 1) 50 13 [(2, 1), (0, a0), (0, a1)] (if v.1 = 9 then [] else v :: []) m' Q1) = Q2
        show zW E (d - 1 - 1) 49 0 [(2, 1), (0, a1)] [] m0 Q2
        refine zw_3 zr_49_0 rfl ?_
        refine zw_40_0 zr_49_1 ?_ ?_
        · intro h17
          refine zw_push zr_49_16 ?_
          refine zw_R zr_49_17 (by decide) zm_49 (v := (0, 0)) (zRetB (by omega)) ?_
          rw [← hQ2]
          show zW E (d - 1) 50 13 [(2, 1), (0, a0), (0, a1)] [(0, 0)] m0 Q1
          refine zw_40_1 zr_50_13 ?_ ?_
          · intro h18
            refine zw_push zr_50_25 ?_
            refine zw_R zr_50_26 (by decide) zm_50 (v := (0, 0)) (zRetB (by omega)) ?_
            rw [← hQ1]
            show zW E (d) 126 9 [(2, 0), (0, a0), (0, a1), (0, a2), (0, a3), (9, 0)] [(0, 0)] m0 Q
            refine zw_40_1 zr_126_9 ?_ ?_
            · intro h19
              refine zw_push zr_126_30 ?_
              refine zw_R zr_126_32 (by decide) zm_126 (v := (0, (-2))) rfl ?_
              rw [← hQ]; exact ⟨_, rfl, by omega, by omega, hI0, hF0, by omega⟩
            · intro h21; omega
          · intro h22; omega
        · intro h23
          refine zw_3 zr_49_4 rfl ?_
          refine zw_7 zr_49_5 rfl ?_
          refine zw_46i zr_49_6 hg0 rfl rfl rfl ?_
          refine zw_41_3 zr_49_9 ?_ ?_
          · intro h24
            refine zw_push zr_49_16 ?_
            refine zw_R zr_49_17 (by decide) zm_49 (v := (0, 0)) (zRetB (by omega)) ?_
            rw [← hQ2]
            show zW E (d - 1) 50 13 [(2, 1), (0, a0), (0, a1)] [(0, 0)] m0 Q1
            refine zw_40_1 zr_50_13 ?_ ?_
            · intro h25
              refine zw_push zr_50_25 ?_
              refine zw_R zr_50_26 (by decide) zm_50 (v := (0, 0)) (zRetB (by omega)) ?_
              rw [← hQ1]
              show zW E (d) 126 9 [(2, 0), (0, a0), (0, a1), (0, a2), (0, a3), (9, 0)] [(0, 0)] m0 Q
              refine zw_40_1 zr_126_9 ?_ ?_
              · intro h26
                refine zw_push zr_126_30 ?_
                refine zw_R zr_126_32 (by decide) zm_126 (v := (0, (-2))) rfl ?_
                rw [← hQ]; exact ⟨_, rfl, by omega, by omega, hI0, hF0, by omega⟩
              · intro h28; omega
            · intro h29; omega
          · intro h30
            refine zw_push zr_49_12 ?_
            refine zw_42 zr_49_13 ?_
            refine zw_R zr_49_17 (by decide) zm_49 (v := (0, 1)) (zRetB (by omega)) ?_
            rw [← hQ2]
            show zW E (d - 1) 50 13 [(2, 1), (0, a0), (0, a1)] [(0, 1)] m0 Q1
            refine zw_40_1 zr_50_13 ?_ ?_
            · intro h31; omega
            · intro h32
              refine zw_3 zr_50_16 rfl ?_
              refine zw_3 zr_50_17 rfl ?_
              refine zw_41_1 zr_50_18 ?_ ?_
              · intro h33
                refine zw_push zr_50_25 ?_
                refine zw_R zr_50_26 (by decide) zm_50 (v := (0, 0)) (zRetB (by omega)) ?_
                rw [← hQ1]
                show zW E (d) 126 9 [(2, 0), (0, a0), (0, a1), (0, a2), (0, a3), (9, 0)] [(0, 0)] m0 Q
                refine zw_40_1 zr_126_9 ?_ ?_
                · intro h34
                  refine zw_push zr_126_30 ?_
                  refine zw_R zr_126_32 (by decide) zm_126 (v := (0, (-2))) rfl ?_
                  rw [← hQ]; exact ⟨_, rfl, by omega, by omega, hI0, hF0, by omega⟩
                · intro h36; omega
              · intro h37
                refine zw_push zr_50_21 ?_
                refine zw_42 zr_50_22 ?_
                refine zw_R zr_50_26 (by decide) zm_50 (v := (0, 1)) (zRetB (by omega)) ?_
                rw [← hQ1]
                show zW E (d) 126 9 [(2, 0), (0, a0), (0, a1), (0, a2), (0, a3), (9, 0)] [(0, 1)] m0 Q
                refine zw_40_1 zr_126_9 ?_ ?_
                · intro h38; omega
                · intro h39
                  refine zw_3 zr_126_12 rfl ?_
                  refine zw_push zr_126_13 ?_
                  refine zw_41_0 zr_126_14 ?_ ?_
                  · intro h40
                    refine zw_push zr_126_30 ?_
                    refine zw_R zr_126_32 (by decide) zm_126 (v := (0, (-2))) rfl ?_
                    rw [← hQ]; exact ⟨_, rfl, by omega, by omega, hI0, hF0, by omega⟩
                  · intro h42
                    refine zw_4 zr_126_17 rfl ?_
                    refine zw_3 zr_126_19 rfl ?_
                    refine zw_41_5 zr_126_20 ?_ ?_
                    · intro h43
                      refine zw_push zr_126_30 ?_
                      refine zw_R zr_126_32 (by decide) zm_126 (v := (0, (-2))) rfl ?_
                      rw [← hQ]; exact ⟨_, rfl, by omega, by omega, hI0, hF0, by omega⟩
                    · intro h45
                      refine zw_4 zr_126_23 rfl ?_
                      refine zw_push zr_126_25 ?_
                      refine zw_41_5 zr_126_27 ?_ ?_
                      · intro h46
                        refine zw_7 zr_126_33 rfl ?_
                        refine zw_46r (s := 1) zr_126_34 rfl rfl rfl rfl ?_
                        refine zw_3 zr_126_37 rfl ?_
                        refine zw_3 zr_126_38 rfl ?_
                        refine zw_C zr_126_39 (Or.inl rfl) zm_56 rfl rfl ⟨Nat.le_of_ble_eq_true rfl, Nat.le_of_ble_eq_true rfl, Nat.le_of_ble_eq_true rfl, rfl, by decide⟩ (by omega) (th_56 (d := d - 1) (by omega) hI0 (a0 := a0) (a1 := a1)   (F6 := F6) (F7 := F7)  hG6 hG7 (by omega) (by omega) ) ?_
                        rintro _ _ ⟨r47, rfl, hr47a, hr47b, rfl, po0_r47⟩
                        show zW E (d) 126 42 [(2, 0), (0, a0), (0, a1), (0, a2), (0, a3), (9, 0)] [(0, r47)] m0 Q
                        refine zw_10 (L' := [(2, 0), (0, a0), (0, a1), (0, a2), (0, a3), (0, r47)]) zr_126_42 (Nat.le_of_ble_eq_true rfl) rfl ?_
                        refine zw_4 zr_126_44 rfl ?_
                        refine zw_push zr_126_46 ?_
                        refine zw_push zr_126_47 ?_
                        refine zw_C zr_126_49 (Or.inr rfl) zm_100 rfl rfl ⟨Nat.le_of_ble_eq_true rfl, Nat.le_of_ble_eq_true rfl, Nat.le_of_ble_eq_true rfl, rfl, by decide⟩ (by omega) (P := (fun v m' => zW E (d) 126 52 [(2, 0), (0, a0), (0, a1), (0, a2), (0, a3), (0, r47)] (if v.1 = 9 then [] else v :: []) m' Q)) ?_ (fun _ _ h => h)
                        generalize hQ1 : (fun v m' => zW E (d) 126 52 [(2, 0), (0, a0), (0, a1), (0, a2), (0, a3), (0, r47)] (if v.1 = 9 then [] else v :: []) m' Q) = Q1
                        show zW E (d - 1) 100 0 [(0, r47), (0, 1), (0, 15)] [] m0 Q1
                        refine zw_3 zr_100_0 rfl ?_
                        refine zw_3 zr_100_1 rfl ?_
                        refine zw_41_0 zr_100_2 ?_ ?_
                        · intro h48
                          refine zw_push zr_100_14 ?_
                          refine zw_R zr_100_15 (by decide) zm_100 (v := (0, 0)) (zRetB (by omega)) ?_
                          rw [← hQ1]
                          show zW E (d) 126 52 [(2, 0), (0, a0), (0, a1), (0, a2), (0, a3), (0, r47)] [(0, 0)] m0 Q
                          refine zw_40_4 zr_126_52 ?_ ?_
                          · intro h49; omega
                          · intro h50
                            refine zw_push zr_126_55 ?_
                            refine zw_R zr_126_57 (by decide) zm_126 (v := (0, (-3))) rfl ?_
                            rw [← hQ]; exact ⟨_, rfl, by omega, by omega, hI0, hF0, by omega⟩
                        · intro h52
                          refine zw_3 zr_100_5 rfl ?_
                          refine zw_3 zr_100_6 rfl ?_
                          refine zw_41_2 zr_100_7 ?_ ?_
                          · intro h53
                            refine zw_push zr_100_14 ?_
                            refine zw_R zr_100_15 (by decide) zm_100 (v := (0, 0)) (zRetB (by omega)) ?_
                            rw [← hQ1]
                            show zW E (d) 126 52 [(2, 0), (0, a0), (0, a1), (0, a2), (0, a3), (0, r47)] [(0, 0)] m0 Q
                            refine zw_40_4 zr_126_52 ?_ ?_
                            · intro h54; omega
                            · intro h55
                              refine zw_push zr_126_55 ?_
                              refine zw_R zr_126_57 (by decide) zm_126 (v := (0, (-3))) rfl ?_
                              rw [← hQ]; exact ⟨_, rfl, by omega, by omega, hI0, hF0, by omega⟩
                          · intro h57
                            refine zw_push zr_100_10 ?_
                            refine zw_42 zr_100_11 ?_
                            refine zw_R zr_100_15 (by decide) zm_100 (v := (0, 1)) (zRetB (by omega)) ?_
                            rw [← hQ1]
                            show zW E (d) 126 52 [(2, 0), (0, a0), (0, a1), (0, a2), (0, a3), (0, r47)] [(0, 1)] m0 Q
                            refine zw_40_4 zr_126_52 ?_ ?_
                            · intro h58
                              refine zw_7 zr_126_58 rfl ?_
                              refine zw_46r (s := 42) zr_126_59 rfl rfl rfl rfl ?_
                              refine zw_4 zr_126_62 rfl ?_
                              refine zw_7 zr_126_64 rfl ?_
                              refine zw_46r (s := 1) zr_126_65 rfl rfl rfl rfl ?_
                              refine zw_3 zr_126_68 rfl ?_
                              refine zw_3 zr_126_69 rfl ?_
                              refine zw_C zr_126_70 (Or.inl rfl) zm_57 rfl rfl ⟨Nat.le_of_ble_eq_true rfl, Nat.le_of_ble_eq_true rfl, Nat.le_of_ble_eq_true rfl, rfl, by decide⟩ (by omega) (th_57 (d := d - 1) (by omega) hI0 (a0 := a0) (a1 := a1)      (by omega) (by omega) ) ?_
                              rintro _ _ ⟨r59, rfl, hr59a, hr59b, rfl⟩
                              show zW E (d) 126 73 [(2, 0), (0, a0), (0, a1), (0, a2), (0, a3), (0, r47)] [(0, r59), (0, r47), (2, 42)] m0 Q
                              refine zw_3 zr_126_73 rfl ?_
                              refine zw_4 zr_126_74 rfl ?_
                              refine zw_C zr_126_76 (Or.inr rfl) zm_2 rfl rfl ⟨Nat.le_of_ble_eq_true rfl, Nat.le_of_ble_eq_true rfl, Nat.le_of_ble_eq_true rfl, rfl, by decide⟩ (by omega) (th_2 (d := d - 1) (by omega) hI0 (a0 := r47) (a1 := r59) (a2 := a2) (a3 := a3)      (by omega) (by omega) (by omega) (by omega) ) ?_
                              rintro _ _ ⟨r60, rfl, hr60a, hr60b, rfl⟩
                              show zW E (d) 126 79 [(2, 0), (0, a0), (0, a1), (0, a2), (0, a3), (0, r47)] [(1, r60), (2, 42)] m0 Q
                              refine zw_4 zr_126_79 rfl ?_
                              refine zw_4 zr_126_81 rfl ?_
                              refine zw_C zr_126_83 (Or.inr rfl) zm_1 rfl rfl ⟨Nat.le_of_ble_eq_true rfl, Nat.le_of_ble_eq_true rfl, Nat.le_of_ble_eq_true rfl, rfl, by decide⟩ (by omega) (th_1 (d := d - 1) (by omega) hI0 (a0 := a3) (a1 := r47)      (by omega) (by omega) ) ?_
                              rintro _ _ ⟨r61, rfl, hr61a, hr61b, rfl⟩
                              show zW E (d) 126 86 [(2, 0), (0, a0), (0, a1), (0, a2), (0, a3), (0, r47)] [(1, r61), (1, r60), (2, 42)] m0 Q
                              refine zw_C zr_126_86 (Or.inl rfl) zm_38 rfl rfl ⟨Nat.le_of_ble_eq_true rfl, Nat.le_of_ble_eq_true rfl, Nat.le_of_ble_eq_true rfl, rfl, by decide⟩ (by omega) (th_38 (d := d - 1) (by omega) hI0 (a0 := r60) (a1 := r61)      (by omega) (by omega) ) ?_
                              rintro _ m62 ⟨rfl, hIm62, gm62⟩
                              have hFm62 : zFr W_126 m0 m62 := hF0.trans gm62 rfl
                              have km62_1_0 : m62 1 0 = g0 := (gm62 1 0 rfl).trans hg0
                              have fm62_6 : m62 6 = F6 := (funext fun k => gm62 6 k rfl).trans hG6
                              have fm62_7 : m62 7 = F7 := (funext fun k => gm62 7 k rfl).trans hG7
                              show zW E (d) 126 89 [(2, 0), (0, a0), (0, a1), (0, a2), (0, a3), (0, r47)] [] m62 Q
                              refine zw_push zr_126_89 ?_
                              refine zw_R zr_126_90 (by decide) zm_126 (v := (0, 1)) rfl ?_
                              rw [← hQ]; exact ⟨_, rfl, by omega, by omega, hIm62, hFm62, by omega⟩
                            · intro h64; omega
                      · intro h65
                        refine zw_push zr_126_30 ?_
                        refine zw_R zr_126_32 (by decide) zm_126 (v := (0, (-2))) rfl ?_
                        rw [← hQ]; exact ⟨_, rfl, by omega, by omega, hI0, hF0, by omega⟩
