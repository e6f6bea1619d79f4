abbrev W_194 : List (Nat × Nat) := [(69, 5), (69, 6), (69, 7), (69, 9), (69, 11), (69, 13), (69, 17), (69, 18), (69, 23), (69, 24), (73, 1000), (74, 1000), (75, 1000), (76, 1000), (77, 1000), (78, 1000), (82, 1000)]
set_option maxHeartbeats 8000000 in
theorem th_194 {E : zE} {d : Nat} {m0 : zM} {a0 : Int} {a1 : Int} {a2 : Int} {g0 : Int} {F70 : Nat → Int} {F82 : Nat → Int} (hd : 8 ≤ d) (hI0 : zInv m0) (hg0 : m0 70 823 = g0) (hG70 : m0 70 = F70) (hG82 : m0 82 = F82) (ha0 : 0 ≤ a0 ∧ a0 ≤ 3) (ha1 : 0 ≤ a1 ∧ a1 ≤ 9) (ha2 : 1 ≤ a2 ∧ a2 ≤ 9) (hp0 : srt (fun i => F70 (90 + 6 * i)) g0.toNat) : zC E d 194 [(2, 69), (0, a0), (0, a1), (0, a2)] m0 (fun v m' => ∃ r : Int, v = (0, r) ∧ 0 ≤ r ∧ r ≤ 1 ∧ zInv m' ∧ zFr W_194 m0 m' ∧ ((r = 1 ∧ zFb ((mHm (fun i => F70 (90 + 6 * i)) (fun i => F70 (91 + 6 * i)) (fun i => F70 (92 + 6 * i)) g0) a1.toNat) ((nHm (cht F70 a0) (fun i => F70 (91 + 6 * i)) (fun i => F70 (92 + 6 * i)) (fun i => F70 (93 + 6 * i)) (fun i => F70 (90 + 6 * i)) (fun i => F70 (94 + 6 * i)) (F70 (450 + 52 * a0).toNat) g0) a1.toNat) a2 (m' 69 24)) ∨ (r = 0 ∧ zFn ((mHm (fun i => F70 (90 + 6 * i)) (fun i => F70 (91 + 6 * i)) (fun i => F70 (92 + 6 * i)) g0) a1.toNat) ((nHm (cht F70 a0) (fun i => F70 (91 + 6 * i)) (fun i => F70 (92 + 6 * i)) (fun i => F70 (93 + 6 * i)) (fun i => F70 (90 + 6 * i)) (fun i => F70 (94 + 6 * i)) (F70 (450 + 52 * a0).toNat) g0) a1.toNat) a2))) := by
  have hF0 : zFr W_194 m0 m0 := zFr.rfl
  have bg0 : 0 ≤ m0 70 823 ∧ m0 70 823 ≤ 60 := ib_70_meetings hI0 (by omega)
  rw [hg0] at bg0
  generalize hQ : (fun (v : zV) (m' : zM) => ∃ r : Int, v = (0, r) ∧ 0 ≤ r ∧ r ≤ 1 ∧ zInv m' ∧ zFr W_194 m0 m' ∧ ((r = 1 ∧ zFb ((mHm (fun i => F70 (90 + 6 * i)) (fun i => F70 (91 + 6 * i)) (fun i => F70 (92 + 6 * i)) g0) a1.toNat) ((nHm (cht F70 a0) (fun i => F70 (91 + 6 * i)) (fun i => F70 (92 + 6 * i)) (fun i => F70 (93 + 6 * i)) (fun i => F70 (90 + 6 * i)) (fun i => F70 (94 + 6 * i)) (F70 (450 + 52 * a0).toNat) g0) a1.toNat) a2 (m' 69 24)) ∨ (r = 0 ∧ zFn ((mHm (fun i => F70 (90 + 6 * i)) (fun i => F70 (91 + 6 * i)) (fun i => F70 (92 + 6 * i)) g0) a1.toNat) ((nHm (cht F70 a0) (fun i => F70 (91 + 6 * i)) (fun i => F70 (92 + 6 * i)) (fun i => F70 (93 + 6 * i)) (fun i => F70 (90 + 6 * i)) (fun i => F70 (94 + 6 * i)) (F70 (450 + 52 * a0).toNat) g0) a1.toNat) a2))) = Q
  show zW E d 194 0 [(2, 69), (0, a0), (0, a1), (0, a2), (9, 0), (9, 0), (9, 0)] [] m0 Q
  refine zw_7 zr_194_0 rfl ?_
  refine zw_3 zr_194_1 rfl ?_
  refine zw_3 zr_194_2 rfl ?_
  refine zw_C zr_194_3 (Or.inl rfl) zm_193 rfl rfl ⟨Nat.le_of_ble_eq_true rfl, Nat.le_of_ble_eq_true rfl, Nat.le_of_ble_eq_true rfl, rfl, by decide⟩ (by omega) (th_193 (d := d - 1) (by omega) hI0 (a0 := a0) (a1 := a1) (g0 := g0)  (F70 := F70) (F76 := m0 76) (F77 := m0 77) (F78 := m0 78) (F82 := F82) hg0 hG70 rfl rfl rfl hG82 (by omega) (by omega) (hp0)) ?_
  rintro _ m2 ⟨rfl, hIm2, gm2, po0_m2⟩
  have hFm2 : zFr W_194 m0 m2 := hF0.trans gm2 rfl
  have km2_70_823 : m2 70 823 = g0 := (gm2 70 823 rfl).trans hg0
  have fm2_70 : m2 70 = F70 := (funext fun k => gm2 70 k rfl).trans hG70
  obtain ⟨f3, fm2_82⟩ : ∃ f, m2 82 = f := ⟨_, rfl⟩
  try rw [fm2_82] at po0_m2
  obtain ⟨f4, ef4⟩ : ∃ v, m2 69 23 = v := ⟨_, rfl⟩
  have bf4 := ib_69_23 hIm2
  rw [ef4] at bf4
  rw [ef4] at po0_m2
  show zW E (d) 194 6 [(2, 69), (0, a0), (0, a1), (0, a2), (9, 0), (9, 0), (9, 0)] [] m2 Q
  have hF := po0_m2
  refine zw_push zr_194_6 ?_
  refine zw_10 (L' := [(2, 69), (0, a0), (0, a1), (0, a2), (0, 0), (9, 0), (9, 0)]) zr_194_7 (Nat.le_of_ble_eq_true rfl) rfl ?_
  obtain ⟨f9, ef9⟩ : ∃ v, m2 69 24 = v := ⟨_, rfl⟩
  have bf9 := hIm2.fi (c := 69) (k := 24) rfl
  rw [ef9] at bf9
  have lp9_10 : ∀ (nlp9_10 : Nat) (i6 p8 : Int) (m7 : zM), zInv m7 → zFr W_194 m0 m7 → m7 70 823 = g0 → m7 69 23 = f4 → m7 69 24 = p8 → m7 70 = F70 → m7 82 = f3 → 0 ≤ i6 → i6 ≤ 100 → (-2147483648) ≤ p8 → p8 ≤ 2147483647 → (zWo f3 a2 i6 p8) → (i6 = 0 ∨ i6 + a2 ≤ f4 + 1) → (100 - i6).toNat < nlp9_10 → zW E (d) 194 9 [(2, 69), (0, a0), (0, a1), (0, a2), (0, i6), (9, 0), (9, 0)] [] m7 Q := by
    intro nlp9_10
    induction nlp9_10 with
    | zero =>
      intros
      exact absurd (by assumption : _ < 0) (Nat.not_lt_zero _)
    | succ nlp9_10 ihlp9_10 =>
      intro i6 p8 m7 hIm7 hFm7 km7_70_823 km7_69_23 km7_69_24 fm7_70 fm7_82 li6 ui6 lp8 up8 hv0lp9_10 hv1lp9_10 hmlp9_10
      refine zw_4 zr_194_9 rfl ?_
      refine zw_3 zr_194_11 rfl ?_
      refine zw_16 zr_194_12 (by omega) ?_
      refine zw_7 zr_194_13 rfl ?_
      refine zw_46i zr_194_14 km7_69_23 rfl rfl rfl ?_
      refine zw_41_2 zr_194_17 ?_ ?_
      · intro h12
        refine zw_7 zr_194_107 rfl ?_
        refine zw_46i zr_194_108 km7_69_23 rfl rfl rfl ?_
        refine zw_3 zr_194_111 rfl ?_
        refine zw_41_0 zr_194_112 ?_ ?_
        · intro h13
          refine zw_push zr_194_119 ?_
          refine zw_R zr_194_120 (by decide) zm_194 (v := (0, 0)) (zRetB (by omega)) ?_
          rw [← hQ]; exact ⟨_, rfl, by omega, by omega, hIm7, hFm7, by first | exact Or.inl ⟨rfl, by rw [km7_69_24]; exact zFb_m hF hv0lp9_10 (by omega)⟩ | exact Or.inr ⟨rfl, zFn_m hF (by omega)⟩⟩
        · intro h15
          refine zw_push zr_194_115 ?_
          refine zw_42 zr_194_116 ?_
          refine zw_R zr_194_120 (by decide) zm_194 (v := (0, 1)) (zRetB (by omega)) ?_
          rw [← hQ]; exact ⟨_, rfl, by omega, by omega, hIm7, hFm7, by first | exact Or.inl ⟨rfl, by rw [km7_69_24]; exact zFb_m hF hv0lp9_10 (by omega)⟩ | exact Or.inr ⟨rfl, zFn_m hF (by omega)⟩⟩
      · intro h17
        refine zw_7 zr_194_20 rfl ?_
        refine zw_46r (s := 82) zr_194_21 rfl rfl rfl rfl ?_
        refine zw_4 zr_194_24 rfl ?_
        refine zw_48 (c := 82) (len := 100) zr_194_26 rfl rfl (by omega) (by omega) ?_
        intro x18 ex18
        have bx18 := hIm7.ra (c := 82) (len := 100) (k := (i6).toNat) rfl (by omega)
        rw [← ex18] at bx18
        have qx18 : x18 = f3 (i6).toNat := by rw [← fm7_82]; exact ex18
        clear ex18
        refine zw_10 (L' := [(2, 69), (0, a0), (0, a1), (0, a2), (0, i6), (0, x18), (9, 0)]) zr_194_27 (Nat.le_of_ble_eq_true rfl) rfl ?_
        refine zw_4 zr_194_29 rfl ?_
        refine zw_10 (L' := [(2, 69), (0, a0), (0, a1), (0, a2), (0, i6), (0, x18), (0, i6)]) zr_194_31 (Nat.le_of_ble_eq_true rfl) rfl ?_
        have lp33_23 : ∀ (nlp33_23 : Nat) (i19 i20 p22 : Int) (m21 : zM), zInv m21 → zFr W_194 m0 m21 → m21 70 823 = g0 → m21 69 23 = f4 → m21 69 24 = p22 → m21 70 = F70 → m21 82 = f3 → (-2147483648) ≤ i19 → i19 ≤ 2147483647 → 0 ≤ i20 → i20 ≤ 100 → (-2147483648) ≤ p22 → p22 ≤ 2147483647 → (zWl f3 i6 i20 i19) → (i6 ≤ i20 ∧ i20 ≤ i6 + a2) → (zWo f3 a2 i6 p22) → (100 - i20).toNat < nlp33_23 → zW E (d) 194 33 [(2, 69), (0, a0), (0, a1), (0, a2), (0, i6), (0, i19), (0, i20)] [] m21 Q := by
          intro nlp33_23
          induction nlp33_23 with
          | zero =>
            intros
            exact absurd (by assumption : _ < 0) (Nat.not_lt_zero _)
          | succ nlp33_23 ihlp33_23 =>
            intro i19 i20 p22 m21 hIm21 hFm21 km21_70_823 km21_69_23 km21_69_24 fm21_70 fm21_82 li19 ui19 li20 ui20 lp22 up22 hv0lp33_23 hv1lp33_23 hv2lp33_23 hmlp33_23
            refine zw_4 zr_194_33 rfl ?_
            refine zw_4 zr_194_35 rfl ?_
            refine zw_3 zr_194_37 rfl ?_
            refine zw_16 zr_194_38 (by omega) ?_
            refine zw_41_3 zr_194_39 ?_ ?_
            · intro h25
              refine zw_7 zr_194_74 rfl ?_
              refine zw_4 zr_194_75 rfl ?_
              refine zw_40_1 zr_194_77 ?_ ?_
              · intro h26
                refine zw_4 zr_194_89 rfl ?_
                refine zw_42 zr_194_91 ?_
                refine zw_47 (c := 69) zr_194_98 rfl ⟨rfl, by decide, rfl⟩ ?_
                intro m27 em27
                have hIm27 : zInv m27 := by rw [em27]; exact hIm21.any (by omega) rfl (by decide) (by decide)
                have hFm27 : zFr W_194 m0 m27 := by rw [em27]; exact hFm21.up rfl
                have km27_70_823 : m27 70 823 = g0 := by rw [em27, zUp_ne (by omega)]; exact km21_70_823
                have km27_69_23 : m27 69 23 = f4 := by rw [em27, zUp_ne (by omega)]; exact km21_69_23
                have km27_69_24 : m27 69 24 = i19 := by rw [em27]; exact zUp_eq _ _ _ _
                have fm27_70 : m27 70 = F70 := by rw [em27, zUp_fn (by decide)]; exact fm21_70
                have fm27_82 : m27 82 = f3 := by rw [em27, zUp_fn (by decide)]; exact fm21_82
                clear em27
                refine zw_15 (c := 1) (L' := [(2, 69), (0, a0), (0, a1), (0, a2), (0, (i6 + 1)), (0, i19), (0, i20)]) zr_194_101 rfl (by decide) (by omega) rfl ?_
                refine zw_42 zr_194_104 ?_
                exact zw_less (L := [(2, 69), (0, a0), (0, a1), (0, a2), (0, (i6 + 1)), (9, 0), (9, 0)]) ⟨Or.inr rfl, Or.inr rfl, Or.inr rfl, Or.inr rfl, Or.inr rfl, Or.inl rfl, Or.inl rfl, trivial⟩ (ihlp9_10 ((i6 + 1)) (i19) m27 hIm27 hFm27  km27_70_823 km27_69_23 km27_69_24 fm27_70 fm27_82 (by omega) (by omega) (by omega) (by omega) (zWo_s hv2lp33_23 (zWl_m hv0lp33_23 (by omega)) (by omega) (by omega)) (by omega) (by omega))
              · intro h29
                refine zw_4 zr_194_80 rfl ?_
                refine zw_7 zr_194_82 rfl ?_
                refine zw_46i zr_194_83 km21_69_24 rfl rfl rfl ?_
                refine zw_41_5 zr_194_86 ?_ ?_
                · intro h30
                  refine zw_7 zr_194_94 rfl ?_
                  refine zw_46i zr_194_95 km21_69_24 rfl rfl rfl ?_
                  refine zw_47 (c := 69) zr_194_98 rfl ⟨rfl, by decide, rfl⟩ ?_
                  intro m31 em31
                  have hIm31 : zInv m31 := by rw [em31]; exact hIm21.any (by omega) rfl (by decide) (by decide)
                  have hFm31 : zFr W_194 m0 m31 := by rw [em31]; exact hFm21.up rfl
                  have km31_70_823 : m31 70 823 = g0 := by rw [em31, zUp_ne (by omega)]; exact km21_70_823
                  have km31_69_23 : m31 69 23 = f4 := by rw [em31, zUp_ne (by omega)]; exact km21_69_23
                  have km31_69_24 : m31 69 24 = p22 := by rw [em31]; exact zUp_eq _ _ _ _
                  have fm31_70 : m31 70 = F70 := by rw [em31, zUp_fn (by decide)]; exact fm21_70
                  have fm31_82 : m31 82 = f3 := by rw [em31, zUp_fn (by decide)]; exact fm21_82
                  clear em31
                  refine zw_15 (c := 1) (L' := [(2, 69), (0, a0), (0, a1), (0, a2), (0, (i6 + 1)), (0, i19), (0, i20)]) zr_194_101 rfl (by decide) (by omega) rfl ?_
                  refine zw_42 zr_194_104 ?_
                  exact zw_less (L := [(2, 69), (0, a0), (0, a1), (0, a2), (0, (i6 + 1)), (9, 0), (9, 0)]) ⟨Or.inr rfl, Or.inr rfl, Or.inr rfl, Or.inr rfl, Or.inr rfl, Or.inl rfl, Or.inl rfl, trivial⟩ (ihlp9_10 ((i6 + 1)) (p22) m31 hIm31 hFm31  km31_70_823 km31_69_23 km31_69_24 fm31_70 fm31_82 (by omega) (by omega) (by omega) (by omega) (zWo_s hv2lp33_23 (zWl_m hv0lp33_23 (by omega)) (by omega) (by omega)) (by omega) (by omega))
                · intro h33
                  refine zw_4 zr_194_89 rfl ?_
                  refine zw_42 zr_194_91 ?_
                  refine zw_47 (c := 69) zr_194_98 rfl ⟨rfl, by decide, rfl⟩ ?_
                  intro m34 em34
                  have hIm34 : zInv m34 := by rw [em34]; exact hIm21.any (by omega) rfl (by decide) (by decide)
                  have hFm34 : zFr W_194 m0 m34 := by rw [em34]; exact hFm21.up rfl
                  have km34_70_823 : m34 70 823 = g0 := by rw [em34, zUp_ne (by omega)]; exact km21_70_823
                  have km34_69_23 : m34 69 23 = f4 := by rw [em34, zUp_ne (by omega)]; exact km21_69_23
                  have km34_69_24 : m34 69 24 = i19 := by rw [em34]; exact zUp_eq _ _ _ _
                  have fm34_70 : m34 70 = F70 := by rw [em34, zUp_fn (by decide)]; exact fm21_70
                  have fm34_82 : m34 82 = f3 := by rw [em34, zUp_fn (by decide)]; exact fm21_82
                  clear em34
                  refine zw_15 (c := 1) (L' := [(2, 69), (0, a0), (0, a1), (0, a2), (0, (i6 + 1)), (0, i19), (0, i20)]) zr_194_101 rfl (by decide) (by omega) rfl ?_
                  refine zw_42 zr_194_104 ?_
                  exact zw_less (L := [(2, 69), (0, a0), (0, a1), (0, a2), (0, (i6 + 1)), (9, 0), (9, 0)]) ⟨Or.inr rfl, Or.inr rfl, Or.inr rfl, Or.inr rfl, Or.inr rfl, Or.inl rfl, Or.inl rfl, trivial⟩ (ihlp9_10 ((i6 + 1)) (i19) m34 hIm34 hFm34  km34_70_823 km34_69_23 km34_69_24 fm34_70 fm34_82 (by omega) (by omega) (by omega) (by omega) (zWo_s hv2lp33_23 (zWl_m hv0lp33_23 (by omega)) (by omega) (by omega)) (by omega) (by omega))
            · intro h36
              refine zw_7 zr_194_42 rfl ?_
              refine zw_46r (s := 82) zr_194_43 rfl rfl rfl rfl ?_
              refine zw_4 zr_194_46 rfl ?_
              refine zw_48 (c := 82) (len := 100) zr_194_48 rfl rfl (by omega) (by omega) ?_
              intro x37 ex37
              have bx37 := hIm21.ra (c := 82) (len := 100) (k := (i20).toNat) rfl (by omega)
              rw [← ex37] at bx37
              have qx37 : x37 = f3 (i20).toNat := by rw [← fm21_82]; exact ex37
              refine zw_4 zr_194_49 rfl ?_
              refine zw_41_3 zr_194_51 ?_ ?_
              · intro h38
                refine zw_4 zr_194_64 rfl ?_
                refine zw_10 (L' := [(2, 69), (0, a0), (0, a1), (0, a2), (0, i6), (0, i19), (0, i20)]) zr_194_66 (Nat.le_of_ble_eq_true rfl) rfl ?_
                refine zw_15 (c := 1) (L' := [(2, 69), (0, a0), (0, a1), (0, a2), (0, i6), (0, i19), (0, (i20 + 1))]) zr_194_68 rfl (by decide) (by omega) rfl ?_
                refine zw_42 zr_194_71 ?_
                exact zw_less (L := [(2, 69), (0, a0), (0, a1), (0, a2), (0, i6), (0, i19), (0, (i20 + 1))]) ⟨Or.inr rfl, Or.inr rfl, Or.inr rfl, Or.inr rfl, Or.inr rfl, Or.inr rfl, Or.inr rfl, trivial⟩ (ihlp33_23 (i19) ((i20 + 1)) (p22) m21 hIm21 hFm21  km21_70_823 km21_69_23 km21_69_24 fm21_70 fm21_82 (by omega) (by omega) (by omega) (by omega) (by omega) (by omega) (zWl_s hv0lp33_23 qx37 (by omega) (by omega)) (by omega) (hv2lp33_23) (by omega))
              · intro h41
                refine zw_7 zr_194_54 rfl ?_
                refine zw_46r (s := 82) zr_194_55 rfl rfl rfl rfl ?_
                refine zw_4 zr_194_58 rfl ?_
                refine zw_48k (c := 82) (len := 100) zr_194_60 rfl rfl (by omega) (by omega) rfl ex37.symm ?_
                refine zw_42 zr_194_61 ?_
                refine zw_10 (L' := [(2, 69), (0, a0), (0, a1), (0, a2), (0, i6), (0, x37), (0, i20)]) zr_194_66 (Nat.le_of_ble_eq_true rfl) rfl ?_
                refine zw_15 (c := 1) (L' := [(2, 69), (0, a0), (0, a1), (0, a2), (0, i6), (0, x37), (0, (i20 + 1))]) zr_194_68 rfl (by decide) (by omega) rfl ?_
                refine zw_42 zr_194_71 ?_
                exact zw_less (L := [(2, 69), (0, a0), (0, a1), (0, a2), (0, i6), (0, x37), (0, (i20 + 1))]) ⟨Or.inr rfl, Or.inr rfl, Or.inr rfl, Or.inr rfl, Or.inr rfl, Or.inr rfl, Or.inr rfl, trivial⟩ (ihlp33_23 (x37) ((i20 + 1)) (p22) m21 hIm21 hFm21  km21_70_823 km21_69_23 km21_69_24 fm21_70 fm21_82 (by omega) (by omega) (by omega) (by omega) (by omega) (by omega) (zWl_s hv0lp33_23 qx37 (by omega) (by omega)) (by omega) (hv2lp33_23) (by omega))
        exact lp33_23 _ (x18) (i6) (p8) m7 hIm7 hFm7  km7_70_823 km7_69_23 km7_69_24 fm7_70 fm7_82 (by omega) (by omega) (by omega) (by omega) (by omega) (by omega) (zWl_0 qx18 rfl) (by omega) (hv0lp9_10) (Nat.lt_succ_self _)
  exact lp9_10 _ (0) (f9) m2 hIm2 hFm2  km2_70_823 ef4 ef9 fm2_70 fm2_82 (by omega) (by omega) (by omega) (by omega) (zWo_0) (by omega) (Nat.lt_succ_self _)

abbrev W_195 : List (Nat × Nat) := [(69, 3), (69, 4), (69, 5), (69, 6), (69, 7), (69, 9), (69, 11), (69, 13), (69, 17), (69, 18), (73, 1000), (74, 1000), (75, 1000), (76, 1000), (77, 1000), (78, 1000)]
set_option maxHeartbeats 8000000 in
theorem th_195 {E : zE} {d : Nat} {m0 : zM} {a0 : Int} {g0 : Int} {g1 : Int} {g2 : Int} {g3 : Int} {F70 : Nat → Int} {F76 : Nat → Int} {F77 : Nat → Int} {F78 : Nat → Int} (hd : 7 ≤ d) (hI0 : zInv m0) (hg0 : m0 70 822 = g0) (hg1 : m0 70 823 = g1) (hg2 : m0 69 3 = g2) (hg3 : m0 69 4 = g3) (hG70 : m0 70 = F70) (hG76 : m0 76 = F76) (hG77 : m0 77 = F77) (hG78 : m0 78 = F78) (ha0 : 0 ≤ a0 ∧ a0 ≤ 3) (hp0 : srt (fun i => F70 (90 + 6 * i)) g1.toNat) : zC E d 195 [(2, 69), (0, a0)] m0 (fun v m' => ∃ r : Int, v = (0, r) ∧ (-1) ≤ r ∧ r ≤ 9 ∧ zInv m' ∧ zFr W_195 m0 m' ∧ (∃ x y, bBe 2 0 g0.toNat (mHm (fun i => F70 (90 + 6 * i)) (fun i => F70 (91 + 6 * i)) (fun i => F70 (92 + 6 * i)) g1) (nHm (cht F70 a0) (fun i => F70 (91 + 6 * i)) (fun i => F70 (92 + 6 * i)) (fun i => F70 (93 + 6 * i)) (fun i => F70 (90 + 6 * i)) (fun i => F70 (94 + 6 * i)) (F70 (450 + 52 * a0).toNat) g1) 100 r x y ∧ ((r = -1 ∧ (m' 69 3) = g2 ∧ (m' 69 4) = g3) ∨ (r ≠ -1 ∧ (-2000000 ≤ x ∧ x ≤ 2000000 ∧ 1 ≤ y ∧ y ≤ 10) ∧ zTl x y (m' 69 3) (m' 69 4))))) := by
  have hF0 : zFr W_195 m0 m0 := zFr.rfl
  have bg0 : 0 ≤ m0 70 822 ∧ m0 70 822 ≤ 10 := ib_70_players hI0 (by omega)
  rw [hg0] at bg0
  have bg1 : 0 ≤ m0 70 823 ∧ m0 70 823 ≤ 60 := ib_70_meetings hI0 (by omega)
  rw [hg1] at bg1
  have bg2 := hI0.fl (c := 69) (k := 3) rfl
  rw [hg2] at bg2
  have bg3 := hI0.fl (c := 69) (k := 4) rfl
  rw [hg3] at bg3
  generalize hQ : (fun (v : zV) (m' : zM) => ∃ r : Int, v = (0, r) ∧ (-1) ≤ r ∧ r ≤ 9 ∧ zInv m' ∧ zFr W_195 m0 m' ∧ (∃ x y, bBe 2 0 g0.toNat (mHm (fun i => F70 (90 + 6 * i)) (fun i => F70 (91 + 6 * i)) (fun i => F70 (92 + 6 * i)) g1) (nHm (cht F70 a0) (fun i => F70 (91 + 6 * i)) (fun i => F70 (92 + 6 * i)) (fun i => F70 (93 + 6 * i)) (fun i => F70 (90 + 6 * i)) (fun i => F70 (94 + 6 * i)) (F70 (450 + 52 * a0).toNat) g1) 100 r x y ∧ ((r = -1 ∧ (m' 69 3) = g2 ∧ (m' 69 4) = g3) ∨ (r ≠ -1 ∧ (-2000000 ≤ x ∧ x ≤ 2000000 ∧ 1 ≤ y ∧ y ≤ 10) ∧ zTl x y (m' 69 3) (m' 69 4))))) = Q
  show zW E d 195 0 [(2, 69), (0, a0), (9, 0), (9, 0), (9, 0), (9, 0), (9, 0), (9, 0), (9, 0), (9, 0), (9, 0), (9, 0), (9, 0), (9, 0), (9, 0)] [] m0 Q
  have e823 : F70 823 = g1 := by rw [← hG70]; exact hg1
  refine zw_push zr_195_0 ?_
  refine zw_9 (L' := [(2, 69), (0, a0), (0, (-1)), (9, 0), (9, 0), (9, 0), (9, 0), (9, 0), (9, 0), (9, 0), (9, 0), (9, 0), (9, 0), (9, 0), (9, 0)]) zr_195_1 (Nat.le_of_ble_eq_true rfl) rfl ?_
  refine zw_push zr_195_2 ?_
  refine zw_13 (L' := [(2, 69), (0, a0), (0, (-1)), (1, 0), (9, 0), (9, 0), (9, 0), (9, 0), (9, 0), (9, 0), (9, 0), (9, 0), (9, 0), (9, 0), (9, 0)]) zr_195_3 (Nat.le_of_ble_eq_true rfl) rfl ?_
  refine zw_push zr_195_4 ?_
  refine zw_14 (L' := [(2, 69), (0, a0), (0, (-1)), (1, 0), (9, 0), (1, 1), (9, 0), (9, 0), (9, 0), (9, 0), (9, 0), (9, 0), (9, 0), (9, 0), (9, 0)]) zr_195_5 (Nat.le_of_ble_eq_true rfl) rfl ?_
  refine zw_push zr_195_7 ?_
  refine zw_10 (L' := [(2, 69), (0, a0), (0, (-1)), (1, 0), (9, 0), (1, 1), (9, 0), (0, 0), (9, 0), (9, 0), (9, 0), (9, 0), (9, 0), (9, 0), (9, 0)]) zr_195_8 (Nat.le_of_ble_eq_true rfl) rfl ?_
  have lp10_12 : ∀ (nlp10_12 : Nat) (i2 i3 i4 i5 p7 p8 : Int) (f9 : Nat → Int) (f10 : Nat → Int) (f11 : Nat → Int) (m6 : zM), zInv m6 → zFr W_195 m0 m6 → m6 70 822 = g0 → m6 70 823 = g1 → m6 69 3 = p7 → m6 69 4 = p8 → m6 70 = F70 → m6 76 = f9 → m6 77 = f10 → m6 78 = f11 → (-1) ≤ i2 → i2 ≤ 9 → (-2000000) ≤ i3 → i3 ≤ 2000000 → 1 ≤ i4 → i4 ≤ 10 → 0 ≤ i5 → i5 ≤ 10 → (-9223372036854775808) ≤ p7 → p7 ≤ 9223372036854775807 → (-9223372036854775808) ≤ p8 → p8 ≤ 9223372036854775807 → (zBe (cdq 2 0 g0.toNat (mHm (fun i => F70 (90 + 6 * i)) (fun i => F70 (91 + 6 * i)) (fun i => F70 (92 + 6 * i)) g1) (nHm (cht F70 a0) (fun i => F70 (91 + 6 * i)) (fun i => F70 (92 + 6 * i)) (fun i => F70 (93 + 6 * i)) (fun i => F70 (90 + 6 * i)) (fun i => F70 (94 + 6 * i)) (F70 (450 + 52 * a0).toNat) g1) i5 0) i2 i3 i4) → (i2 = -1 ∨ (0 ≤ i2 ∧ i2 ≤ 9 ∧ -2000000 ≤ i3 ∧ i3 ≤ 2000000 ∧ 1 ≤ i4 ∧ i4 ≤ 10)) → (i2 ≤ i5 ∧ i5 ≤ g0) → (p7 = g2 ∧ p8 = g3) → (10 - i5).toNat < nlp10_12 → zW E (d) 195 10 [(2, 69), (0, a0), (0, i2), (1, i3), (9, 0), (1, i4), (9, 0), (0, i5), (9, 0), (9, 0), (9, 0), (9, 0), (9, 0), (9, 0), (9, 0)] [] m6 Q := by
    intro nlp10_12
    induction nlp10_12 with
    | zero =>
      intros
      exact absurd (by assumption : _ < 0) (Nat.not_lt_zero _)
    | succ nlp10_12 ihlp10_12 =>
      intro i2 i3 i4 i5 p7 p8 f9 f10 f11 m6 hIm6 hFm6 km6_70_822 km6_70_823 km6_69_3 km6_69_4 fm6_70 fm6_76 fm6_77 fm6_78 li2 ui2 li3 ui3 li4 ui4 li5 ui5 lp7 up7 lp8 up8 hv0lp10_12 hv1lp10_12 hv2lp10_12 hv3lp10_12 hmlp10_12
      refine zw_4 zr_195_10 rfl ?_
      refine zw_7 zr_195_12 rfl ?_
      refine zw_C zr_195_13 (Or.inl rfl) zm_141 rfl rfl ⟨Nat.le_of_ble_eq_true rfl, Nat.le_of_ble_eq_true rfl, Nat.le_of_ble_eq_true rfl, rfl, by decide⟩ (by omega) (P := (fun v m' => zW E (d) 195 16 [(2, 69), (0, a0), (0, i2), (1, i3), (9, 0), (1, i4), (9, 0), (0, i5), (9, 0), (9, 0), (9, 0), (9, 0), (9, 0), (9, 0), (9, 0)] (if v.1 = 9 then [(0, i5)] else v :: [(0, i5)]) m' Q)) ?_ (fun _ _ h => h)
      generalize hQ1 : (fun v m' => zW E (d) 195 16 [(2, 69), (0, a0), (0, i2), (1, i3), (9, 0), (1, i4), (9, 0), (0, i5), (9, 0), (9, 0), (9, 0), (9, 0), (9, 0), (9, 0), (9, 0)] (if v.1 = 9 then [(0, i5)] else v :: [(0, i5)]) m' Q) = Q1
      show zW E (d - 1) 141 0 [(2, 69)] [] m6 Q1
      refine zw_7 zr_141_0 rfl ?_
      refine zw_46r (s := 70) zr_141_1 rfl rfl rfl rfl ?_
      refine zw_push zr_141_4 ?_
      refine zw_48k (c := 70) (len := 826) zr_141_7 rfl rfl (by omega) (by omega) (show (822 : Int).toNat = 822 by omega) km6_70_822 ?_
      refine zw_R zr_141_8 (by decide) zm_141 (v := (0, g0)) rfl ?_
      rw [← hQ1]
      show zW E (d) 195 16 [(2, 69), (0, a0), (0, i2), (1, i3), (9, 0), (1, i4), (9, 0), (0, i5), (9, 0), (9, 0), (9, 0), (9, 0), (9, 0), (9, 0), (9, 0)] [(0, g0), (0, i5)] m6 Q
      refine zw_41_3 zr_195_16 ?_ ?_
      · intro h14
        refine zw_3 zr_195_157 rfl ?_
        refine zw_push zr_195_158 ?_
        refine zw_41_1 zr_195_159 ?_ ?_
        · intro h15
          refine zw_3 zr_195_169 rfl ?_
          refine zw_R zr_195_170 (by decide) zm_195 (v := (0, i2)) rfl ?_
          rw [← hQ]; exact ⟨_, rfl, by omega, by omega, hIm6, hFm6, ⟨_, _, cdq_P hv0lp10_12 (by omega), by first | exact Or.inl ⟨by omega, by rw [km6_69_3]; omega, by rw [km6_69_4]; omega⟩ | exact Or.inr ⟨by omega, by omega, by rw [km6_69_3, km6_69_4]; exact zz⟩⟩⟩
        · intro h17
          refine zw_7 zr_195_162 rfl ?_
          refine zw_5 zr_195_163 rfl ?_
          refine zw_6 zr_195_164 rfl ?_
          refine zw_C zr_195_166 (Or.inl rfl) zm_173 rfl rfl ⟨Nat.le_of_ble_eq_true rfl, Nat.le_of_ble_eq_true rfl, Nat.le_of_ble_eq_true rfl, rfl, by decide⟩ (by omega) (th_173 (d := d - 1) (by omega) hIm6 (a0 := i3) (a1 := i4)      (by omega) (by omega) ) ?_
          rintro _ m18 ⟨rfl, hIm18, gm18, po0_m18⟩
          have hFm18 : zFr W_195 m0 m18 := hFm6.trans gm18 rfl
          have km18_70_822 : m18 70 822 = g0 := (gm18 70 822 rfl).trans km6_70_822
          have km18_70_823 : m18 70 823 = g1 := (gm18 70 823 rfl).trans km6_70_823
          have fm18_70 : m18 70 = F70 := (funext fun k => gm18 70 k rfl).trans fm6_70
          have fm18_76 : m18 76 = f9 := (funext fun k => gm18 76 k rfl).trans fm6_76
          have fm18_77 : m18 77 = f10 := (funext fun k => gm18 77 k rfl).trans fm6_77
          have fm18_78 : m18 78 = f11 := (funext fun k => gm18 78 k rfl).trans fm6_78
          obtain ⟨f19, ef19⟩ : ∃ v, m18 69 3 = v := ⟨_, rfl⟩
          have bf19 := hIm18.fl (c := 69) (k := 3) rfl
          rw [ef19] at bf19
          rw [ef19] at po0_m18
          obtain ⟨f20, ef20⟩ : ∃ v, m18 69 4 = v := ⟨_, rfl⟩
          have bf20 := hIm18.fl (c := 69) (k := 4) rfl
          rw [ef20] at bf20
          rw [ef20] at po0_m18
          show zW E (d) 195 169 [(2, 69), (0, a0), (0, i2), (1, i3), (9, 0), (1, i4), (9, 0), (0, i5), (9, 0), (9, 0), (9, 0), (9, 0), (9, 0), (9, 0), (9, 0)] [] m18 Q
          refine zw_3 zr_195_169 rfl ?_
          refine zw_R zr_195_170 (by decide) zm_195 (v := (0, i2)) rfl ?_
          rw [← hQ]; exact ⟨_, rfl, by omega, by omega, hIm18, hFm18, ⟨_, _, cdq_P hv0lp10_12 (by omega), by first | exact Or.inl ⟨by omega, by rw [ef19]; omega, by rw [ef20]; omega⟩ | exact Or.inr ⟨by omega, by omega, by rw [ef19, ef20]; exact po0_m18⟩⟩⟩
      · intro h22
        refine zw_push zr_195_19 ?_
        refine zw_10 (L' := [(2, 69), (0, a0), (0, i2), (1, i3), (9, 0), (1, i4), (9, 0), (0, i5), (0, 0), (9, 0), (9, 0), (9, 0), (9, 0), (9, 0), (9, 0)]) zr_195_20 (Nat.le_of_ble_eq_true rfl) rfl ?_
        have lp22_33 : ∀ (nlp22_33 : Nat) (i23 i24 i25 i26 p28 p29 : Int) (f30 : Nat → Int) (f31 : Nat → Int) (f32 : Nat → Int) (m27 : zM), zInv m27 → zFr W_195 m0 m27 → m27 70 822 = g0 → m27 70 823 = g1 → m27 69 3 = p28 → m27 69 4 = p29 → m27 70 = F70 → m27 76 = f30 → m27 77 = f31 → m27 78 = f32 → (-1) ≤ i23 → i23 ≤ 9 → (-2000000) ≤ i24 → i24 ≤ 2000000 → 1 ≤ i25 → i25 ≤ 10 → 0 ≤ i26 → i26 ≤ 100 → (-9223372036854775808) ≤ p28 → p28 ≤ 9223372036854775807 → (-9223372036854775808) ≤ p29 → p29 ≤ 9223372036854775807 → (zBe (cdq 2 0 g0.toNat (mHm (fun i => F70 (90 + 6 * i)) (fun i => F70 (91 + 6 * i)) (fun i => F70 (92 + 6 * i)) g1) (nHm (cht F70 a0) (fun i => F70 (91 + 6 * i)) (fun i => F70 (92 + 6 * i)) (fun i => F70 (93 + 6 * i)) (fun i => F70 (90 + 6 * i)) (fun i => F70 (94 + 6 * i)) (F70 (450 + 52 * a0).toNat) g1) i5 i26) i23 i24 i25) → (i23 = -1 ∨ (0 ≤ i23 ∧ i23 ≤ 9 ∧ -2000000 ≤ i24 ∧ i24 ≤ 2000000 ∧ 1 ≤ i25 ∧ i25 ≤ 10)) → (i23 ≤ i5) → (p28 = g2 ∧ p29 = g3) → (100 - i26).toNat < nlp22_33 → zW E (d) 195 22 [(2, 69), (0, a0), (0, i23), (1, i24), (9, 0), (1, i25), (9, 0), (0, i5), (0, i26), (9, 0), (9, 0), (9, 0), (9, 0), (9, 0), (9, 0)] [] m27 Q := by
          intro nlp22_33
          induction nlp22_33 with
          | zero =>
            intros
            exact absurd (by assumption : _ < 0) (Nat.not_lt_zero _)
          | succ nlp22_33 ihlp22_33 =>
            intro i23 i24 i25 i26 p28 p29 f30 f31 f32 m27 hIm27 hFm27 km27_70_822 km27_70_823 km27_69_3 km27_69_4 fm27_70 fm27_76 fm27_77 fm27_78 li23 ui23 li24 ui24 li25 ui25 li26 ui26 lp28 up28 lp29 up29 hv0lp22_33 hv1lp22_33 hv2lp22_33 hv3lp22_33 hmlp22_33
            have hCnt := trivial
            have hS2 := trivial
            have hNl := trivial
            have hW := trivial
            have hXb := trivial
            have hXv := trivial
            refine zw_4 zr_195_22 rfl ?_
            refine zw_push zr_195_24 ?_
            refine zw_41_3 zr_195_26 ?_ ?_
            · intro h41
              refine zw_15 (c := 1) (L' := [(2, 69), (0, a0), (0, i23), (1, i24), (9, 0), (1, i25), (9, 0), (0, (i5 + 1)), (0, i26), (9, 0), (9, 0), (9, 0), (9, 0), (9, 0), (9, 0)]) zr_195_151 rfl (by decide) (by omega) rfl ?_
              refine zw_42 zr_195_154 ?_
              exact zw_less (L := [(2, 69), (0, a0), (0, i23), (1, i24), (9, 0), (1, i25), (9, 0), (0, (i5 + 1)), (9, 0), (9, 0), (9, 0), (9, 0), (9, 0), (9, 0), (9, 0)]) ⟨Or.inr rfl, Or.inr rfl, Or.inr rfl, Or.inr rfl, Or.inl rfl, Or.inr rfl, Or.inl rfl, Or.inr rfl, Or.inl rfl, Or.inl rfl, Or.inl rfl, Or.inl rfl, Or.inl rfl, Or.inl rfl, Or.inl rfl, trivial⟩ (ihlp10_12 (i23) (i24) (i25) ((i5 + 1)) (p28) (p29) (f30) (f31) (f32) m27 hIm27 hFm27  km27_70_822 km27_70_823 km27_69_3 km27_69_4 fm27_70 fm27_76 fm27_77 fm27_78 (by omega) (by omega) (by omega) (by omega) (by omega) (by omega) (by omega) (by omega) (by omega) (by omega) (by omega) (by omega) (cdq_l hv0lp22_33 (by omega)) (by omega) (by omega) (by omega) (by omega))
            · intro h43
              refine zw_7 zr_195_29 rfl ?_
              refine zw_4 zr_195_30 rfl ?_
              refine zw_4 zr_195_32 rfl ?_
              refine zw_C zr_195_34 (Or.inl rfl) zm_172 rfl rfl ⟨Nat.le_of_ble_eq_true rfl, Nat.le_of_ble_eq_true rfl, Nat.le_of_ble_eq_true rfl, rfl, by decide⟩ (by omega) (th_172 (d := d - 1) (by omega) hIm27 (a0 := i5) (a1 := i26)   (F70 := F70)  fm27_70 (by omega) (by omega) ) ?_
              rintro _ _ ⟨r44, rfl, hr44a, hr44b, rfl, po0_r44⟩
              show zW E (d) 195 37 [(2, 69), (0, a0), (0, i23), (1, i24), (9, 0), (1, i25), (9, 0), (0, i5), (0, i26), (9, 0), (9, 0), (9, 0), (9, 0), (9, 0), (9, 0)] [(0, r44)] m27 Q
              rw [e823] at po0_r44
              have hM := (hmv_m F70 (p := i5) (y := i26) (n := g1) (by omega)).symm.trans po0_r44.symm
              refine zw_40_1 zr_195_37 ?_ ?_
              · intro h45
                refine zw_15 (c := 1) (L' := [(2, 69), (0, a0), (0, i23), (1, i24), (9, 0), (1, i25), (9, 0), (0, i5), (0, (i26 + 1)), (9, 0), (9, 0), (9, 0), (9, 0), (9, 0), (9, 0)]) zr_195_145 rfl (by decide) (by omega) rfl ?_
                refine zw_42 zr_195_148 ?_
                exact zw_less (L := [(2, 69), (0, a0), (0, i23), (1, i24), (9, 0), (1, i25), (9, 0), (0, i5), (0, (i26 + 1)), (9, 0), (9, 0), (9, 0), (9, 0), (9, 0), (9, 0)]) ⟨Or.inr rfl, Or.inr rfl, Or.inr rfl, Or.inr rfl, Or.inl rfl, Or.inr rfl, Or.inl rfl, Or.inr rfl, Or.inr rfl, Or.inl rfl, Or.inl rfl, Or.inl rfl, Or.inl rfl, Or.inl rfl, Or.inl rfl, trivial⟩ (ihlp22_33 (i23) (i24) (i25) ((i26 + 1)) (p28) (p29) (f30) (f31) (f32) m27 hIm27 hFm27  km27_70_822 km27_70_823 km27_69_3 km27_69_4 fm27_70 fm27_76 fm27_77 fm27_78 (by omega) (by omega) (by omega) (by omega) (by omega) (by omega) (by omega) (by omega) (by omega) (by omega) (by omega) (by omega) (by first | exact cdq_n hv0lp22_33 (fun z => by have w := hM.symm.trans z; omega) (by omega) | exact cdq_y hv0lp22_33 (hM.trans (by omega)) rfl hCnt hS2 hNl hW rfl (Or.inr hXb) (Or.inr hXv) (by omega) (by omega) | exact cdq_y (xb := 0) (xv := 0) hv0lp22_33 (hM.trans (by omega)) rfl hCnt hS2 hNl hW rfl (Or.inl (by omega)) (Or.inl (by omega)) (by omega) (by omega)) (by omega) (by omega) (by omega) (by omega))
              · intro h47
                refine zw_7 zr_195_40 rfl ?_
                refine zw_3 zr_195_41 rfl ?_
                refine zw_4 zr_195_42 rfl ?_
                refine zw_C zr_195_44 (Or.inl rfl) zm_167 rfl rfl ⟨Nat.le_of_ble_eq_true rfl, Nat.le_of_ble_eq_true rfl, Nat.le_of_ble_eq_true rfl, rfl, by decide⟩ (by omega) (th_167 (d := d - 1) (by omega) hIm27 (a0 := a0) (a1 := i26) (g0 := g1)  (F70 := F70) (F76 := f30) (F77 := f31) (F78 := f32) km27_70_823 fm27_70 fm27_76 fm27_77 fm27_78 (by omega) (by omega) ) ?_
                rintro _ m48 ⟨rfl, hIm48, gm48, po0_m48⟩
                have hFm48 : zFr W_195 m0 m48 := hFm27.trans gm48 rfl
                have km48_70_822 : m48 70 822 = g0 := (gm48 70 822 rfl).trans km27_70_822
                have km48_70_823 : m48 70 823 = g1 := (gm48 70 823 rfl).trans km27_70_823
                have km48_69_3 : m48 69 3 = p28 := (gm48 69 3 rfl).trans km27_69_3
                have km48_69_4 : m48 69 4 = p29 := (gm48 69 4 rfl).trans km27_69_4
                have fm48_70 : m48 70 = F70 := (funext fun k => gm48 70 k rfl).trans fm27_70
                obtain ⟨f49, fm48_76⟩ : ∃ f, m48 76 = f := ⟨_, rfl⟩
                try rw [fm48_76] at po0_m48
                obtain ⟨f50, fm48_77⟩ : ∃ f, m48 77 = f := ⟨_, rfl⟩
                try rw [fm48_77] at po0_m48
                obtain ⟨f51, fm48_78⟩ : ∃ f, m48 78 = f := ⟨_, rfl⟩
                try rw [fm48_78] at po0_m48
                show zW E (d) 195 47 [(2, 69), (0, a0), (0, i23), (1, i24), (9, 0), (1, i25), (9, 0), (0, i5), (0, i26), (9, 0), (9, 0), (9, 0), (9, 0), (9, 0), (9, 0)] [] m48 Q
                have hN : zNy (nHm (cht F70 a0) (fun i => F70 (91 + 6 * i)) (fun i => F70 (92 + 6 * i)) (fun i => F70 (93 + 6 * i)) (fun i => F70 (90 + 6 * i)) (fun i => F70 (94 + 6 * i)) (F70 (450 + 52 * a0).toNat) g1) f49 (i26).toNat := fun p hp => by have z := zGt_n po0_m48 hp0 (by omega) (fun i hi => by have z := ib_70_m1 hI0 (k := 91 + 6 * i) (by omega); rw [hG70] at z; omega) (fun i hi => by have z := ib_70_m2 hI0 (k := 92 + 6 * i) (by omega); rw [hG70] at z; omega) (fun i hi => by have z := ib_70_m0 hI0 (k := 90 + 6 * i) (by omega); rw [hG70] at z; omega) p hp; exact ⟨z.1.trans (nHm_e (by omega)).symm, z.2⟩
                refine zw_push zr_195_47 ?_
                refine zw_14 (L' := [(2, 69), (0, a0), (0, i23), (1, i24), (9, 0), (1, i25), (9, 0), (0, i5), (0, i26), (1, 0), (9, 0), (9, 0), (9, 0), (9, 0), (9, 0)]) zr_195_48 (Nat.le_of_ble_eq_true rfl) rfl ?_
                refine zw_push zr_195_50 ?_
                refine zw_14 (L' := [(2, 69), (0, a0), (0, i23), (1, i24), (9, 0), (1, i25), (9, 0), (0, i5), (0, i26), (1, 0), (9, 0), (1, 0), (9, 0), (9, 0), (9, 0)]) zr_195_51 (Nat.le_of_ble_eq_true rfl) rfl ?_
                refine zw_push zr_195_53 ?_
                refine zw_10 (L' := [(2, 69), (0, a0), (0, i23), (1, i24), (9, 0), (1, i25), (9, 0), (0, i5), (0, i26), (1, 0), (9, 0), (1, 0), (9, 0), (0, 0), (9, 0)]) zr_195_54 (Nat.le_of_ble_eq_true rfl) rfl ?_
                have lp56_59 : ∀ (nlp56_59 : Nat) (i53 i54 i55 p57 p58 : Int) (m56 : zM), zInv m56 → zFr W_195 m0 m56 → m56 70 822 = g0 → m56 70 823 = g1 → m56 69 3 = p57 → m56 69 4 = p58 → m56 70 = F70 → m56 76 = f49 → m56 77 = f50 → m56 78 = f51 → (-1000000) ≤ i53 → i53 ≤ 1000000 → 0 ≤ i54 → i54 ≤ 10 → 0 ≤ i55 → i55 ≤ 10 → (-9223372036854775808) ≤ p57 → p57 ≤ 9223372036854775807 → (-9223372036854775808) ≤ p58 → p58 ≤ 9223372036854775807 → (i54 ≤ i55) → (i55 ≤ i5 ∨ 1 ≤ i54) → (i53 = smp (fun o => (mHm (fun i => F70 (90 + 6 * i)) (fun i => F70 (91 + 6 * i)) (fun i => F70 (92 + 6 * i)) g1) o (i26).toNat) f49 (i55).toNat) → (i54 = smp (fun o => (mHm (fun i => F70 (90 + 6 * i)) (fun i => F70 (91 + 6 * i)) (fun i => F70 (92 + 6 * i)) g1) o (i26).toNat) (fun _ => 1) (i55).toNat) → (-(100000 * i55) ≤ i53 ∧ i53 ≤ 100000 * i55 ∧ i55 ≤ g0) → (zNy (nHm (cht F70 a0) (fun i => F70 (91 + 6 * i)) (fun i => F70 (92 + 6 * i)) (fun i => F70 (93 + 6 * i)) (fun i => F70 (90 + 6 * i)) (fun i => F70 (94 + 6 * i)) (F70 (450 + 52 * a0).toNat) g1) f49 (i26).toNat) → (p57 = g2 ∧ p58 = g3) → (10 - i55).toNat < nlp56_59 → zW E (d) 195 56 [(2, 69), (0, a0), (0, i23), (1, i24), (9, 0), (1, i25), (9, 0), (0, i5), (0, i26), (1, i53), (9, 0), (1, i54), (9, 0), (0, i55), (9, 0)] [] m56 Q := by
                  intro nlp56_59
                  induction nlp56_59 with
                  | zero =>
                    intros
                    exact absurd (by assumption : _ < 0) (Nat.not_lt_zero _)
                  | succ nlp56_59 ihlp56_59 =>
                    intro i53 i54 i55 p57 p58 m56 hIm56 hFm56 km56_70_822 km56_70_823 km56_69_3 km56_69_4 fm56_70 fm56_76 fm56_77 fm56_78 li53 ui53 li54 ui54 li55 ui55 lp57 up57 lp58 up58 hv0lp56_59 hv1lp56_59 hv2lp56_59 hv3lp56_59 hv4lp56_59 hv5lp56_59 hv6lp56_59 hmlp56_59
                    refine zw_4 zr_195_56 rfl ?_
                    refine zw_7 zr_195_58 rfl ?_
                    refine zw_C zr_195_59 (Or.inl rfl) zm_141 rfl rfl ⟨Nat.le_of_ble_eq_true rfl, Nat.le_of_ble_eq_true rfl, Nat.le_of_ble_eq_true rfl, rfl, by decide⟩ (by omega) (P := (fun v m' => zW E (d) 195 62 [(2, 69), (0, a0), (0, i23), (1, i24), (9, 0), (1, i25), (9, 0), (0, i5), (0, i26), (1, i53), (9, 0), (1, i54), (9, 0), (0, i55), (9, 0)] (if v.1 = 9 then [(0, i55)] else v :: [(0, i55)]) m' Q)) ?_ (fun _ _ h => h)
                    generalize hQ1 : (fun v m' => zW E (d) 195 62 [(2, 69), (0, a0), (0, i23), (1, i24), (9, 0), (1, i25), (9, 0), (0, i5), (0, i26), (1, i53), (9, 0), (1, i54), (9, 0), (0, i55), (9, 0)] (if v.1 = 9 then [(0, i55)] else v :: [(0, i55)]) m' Q) = Q1
                    show zW E (d - 1) 141 0 [(2, 69)] [] m56 Q1
                    refine zw_7 zr_141_0 rfl ?_
                    refine zw_46r (s := 70) zr_141_1 rfl rfl rfl rfl ?_
                    refine zw_push zr_141_4 ?_
                    refine zw_48k (c := 70) (len := 826) zr_141_7 rfl rfl (by omega) (by omega) (show (822 : Int).toNat = 822 by omega) km56_70_822 ?_
                    refine zw_R zr_141_8 (by decide) zm_141 (v := (0, g0)) rfl ?_
                    rw [← hQ1]
                    show zW E (d) 195 62 [(2, 69), (0, a0), (0, i23), (1, i24), (9, 0), (1, i25), (9, 0), (0, i5), (0, i26), (1, i53), (9, 0), (1, i54), (9, 0), (0, i55), (9, 0)] [(0, g0), (0, i55)] m56 Q
                    refine zw_41_3 zr_195_62 ?_ ?_
                    · intro h61
                      have hSum := hv2lp56_59
                      rw [show i55 = g0 by omega] at hSum
                      have hCnt := hv3lp56_59
                      rw [show i55 = g0 by omega] at hCnt
                      have hS2 := hSum.trans (smp_cg (f := fun o => (mHm (fun i => F70 (90 + 6 * i)) (fun i => F70 (91 + 6 * i)) (fun i => F70 (92 + 6 * i)) g1) o (i26).toNat) (g := fun o => (nHm (cht F70 a0) (fun i => F70 (91 + 6 * i)) (fun i => F70 (92 + 6 * i)) (fun i => F70 (93 + 6 * i)) (fun i => F70 (90 + 6 * i)) (fun i => F70 (94 + 6 * i)) (F70 (450 + 52 * a0).toNat) g1) o (i26).toNat) (fun _ _ => Iff.rfl) (fun o ho _ => (hv5lp56_59 o (by omega)).1))
                      refine zw_6 zr_195_101 rfl ?_
                      refine zw_7 zr_195_103 rfl ?_
                      refine zw_46r (s := 76) zr_195_104 rfl rfl rfl rfl ?_
                      refine zw_4 zr_195_107 rfl ?_
                      refine zw_48 (c := 76) (len := 10) zr_195_109 rfl rfl (by omega) (by omega) ?_
                      intro x67 ex67
                      have bx67 := hIm56.ra (c := 76) (len := 10) (k := (i5).toNat) rfl (by omega)
                      rw [← ex67] at bx67
                      have qx67 : x67 = f49 (i5).toNat := by rw [← fm56_76]; exact ex67
                      clear ex67
                      have hb : -100000 ≤ x67 ∧ x67 ≤ 100000 := by rw [qx67]; exact (hv5lp56_59 (i5).toNat (by omega)).2
                      have hNl := qx67.trans (hv5lp56_59 (i5).toNat (by omega)).1
                      refine zw_36 zr_195_110 ?_
                      refine zw_29q (A := 10) (B := 100000) zr_195_111 (by omega) (by omega) (by decide) ?_
                      intro x70 ex70 hx70a hx70b
                      have hW := ex70
                      refine zw_6 zr_195_112 rfl ?_
                      refine zw_28 zr_195_114 (by omega) ?_
                      refine zw_14 (L' := [(2, 69), (0, a0), (0, i23), (1, i24), (9, 0), (1, i25), (9, 0), (0, i5), (0, i26), (1, i53), (9, 0), (1, i54), (9, 0), (1, (x70 - i53)), (9, 0)]) zr_195_115 (Nat.le_of_ble_eq_true rfl) rfl ?_
                      refine zw_3 zr_195_117 rfl ?_
                      refine zw_push zr_195_118 ?_
                      refine zw_41_1 zr_195_119 ?_ ?_
                      · intro h72
                        refine zw_4 zr_195_135 rfl ?_
                        refine zw_9 (L' := [(2, 69), (0, a0), (0, i5), (1, i24), (9, 0), (1, i25), (9, 0), (0, i5), (0, i26), (1, i53), (9, 0), (1, i54), (9, 0), (1, (x70 - i53)), (9, 0)]) zr_195_137 (Nat.le_of_ble_eq_true rfl) rfl ?_
                        refine zw_6 zr_195_138 rfl ?_
                        refine zw_13 (L' := [(2, 69), (0, a0), (0, i5), (1, (x70 - i53)), (9, 0), (1, i25), (9, 0), (0, i5), (0, i26), (1, i53), (9, 0), (1, i54), (9, 0), (1, (x70 - i53)), (9, 0)]) zr_195_140 (Nat.le_of_ble_eq_true rfl) rfl ?_
                        refine zw_6 zr_195_141 rfl ?_
                        refine zw_14 (L' := [(2, 69), (0, a0), (0, i5), (1, (x70 - i53)), (9, 0), (1, i54), (9, 0), (0, i5), (0, i26), (1, i53), (9, 0), (1, i54), (9, 0), (1, (x70 - i53)), (9, 0)]) zr_195_143 (Nat.le_of_ble_eq_true rfl) rfl ?_
                        refine zw_15 (c := 1) (L' := [(2, 69), (0, a0), (0, i5), (1, (x70 - i53)), (9, 0), (1, i54), (9, 0), (0, i5), (0, (i26 + 1)), (1, i53), (9, 0), (1, i54), (9, 0), (1, (x70 - i53)), (9, 0)]) zr_195_145 rfl (by decide) (by omega) rfl ?_
                        refine zw_42 zr_195_148 ?_
                        exact zw_less (L := [(2, 69), (0, a0), (0, i5), (1, (x70 - i53)), (9, 0), (1, i54), (9, 0), (0, i5), (0, (i26 + 1)), (9, 0), (9, 0), (9, 0), (9, 0), (9, 0), (9, 0)]) ⟨Or.inr rfl, Or.inr rfl, Or.inr rfl, Or.inr rfl, Or.inl rfl, Or.inr rfl, Or.inl rfl, Or.inr rfl, Or.inr rfl, Or.inl rfl, Or.inl rfl, Or.inl rfl, Or.inl rfl, Or.inl rfl, Or.inl rfl, trivial⟩ (ihlp22_33 (i5) ((x70 - i53)) (i54) ((i26 + 1)) (p57) (p58) (f49) (f50) (f51) m56 hIm56 hFm56  km56_70_822 km56_70_823 km56_69_3 km56_69_4 fm56_70 fm56_76 fm56_77 fm56_78 (by omega) (by omega) (by omega) (by omega) (by omega) (by omega) (by omega) (by omega) (by omega) (by omega) (by omega) (by omega) (by first | exact cdq_n hv0lp22_33 (fun z => by have w := hM.symm.trans z; omega) (by omega) | exact cdq_y hv0lp22_33 (hM.trans (by omega)) rfl hCnt hS2 hNl hW rfl (Or.inr hXb) (Or.inr hXv) (by omega) (by omega) | exact cdq_y (xb := 0) (xv := 0) hv0lp22_33 (hM.trans (by omega)) rfl hCnt hS2 hNl hW rfl (Or.inl (by omega)) (Or.inl (by omega)) (by omega) (by omega)) (by omega) (by omega) (by omega) (by omega))
                      · intro h74
                        refine zw_6 zr_195_122 rfl ?_
                        refine zw_6 zr_195_124 rfl ?_
                        refine zw_29q (A := 2000000) (B := 10) zr_195_126 (by omega) (by omega) (by decide) ?_
                        intro x75 ex75 hx75a hx75b
                        have hXb := ex75
                        refine zw_5 zr_195_127 rfl ?_
                        refine zw_6 zr_195_128 rfl ?_
                        refine zw_29q (A := 2000000) (B := 10) zr_195_130 (by omega) (by omega) (by decide) ?_
                        intro x77 ex77 hx77a hx77b
                        have hXv := ex77
                        refine zw_39_5 zr_195_131 zr_195_132 ?_ ?_
                        · intro h79
                          refine zw_15 (c := 1) (L' := [(2, 69), (0, a0), (0, i23), (1, i24), (9, 0), (1, i25), (9, 0), (0, i5), (0, (i26 + 1)), (1, i53), (9, 0), (1, i54), (9, 0), (1, (x70 - i53)), (9, 0)]) zr_195_145 rfl (by decide) (by omega) rfl ?_
                          refine zw_42 zr_195_148 ?_
                          exact zw_less (L := [(2, 69), (0, a0), (0, i23), (1, i24), (9, 0), (1, i25), (9, 0), (0, i5), (0, (i26 + 1)), (9, 0), (9, 0), (9, 0), (9, 0), (9, 0), (9, 0)]) ⟨Or.inr rfl, Or.inr rfl, Or.inr rfl, Or.inr rfl, Or.inl rfl, Or.inr rfl, Or.inl rfl, Or.inr rfl, Or.inr rfl, Or.inl rfl, Or.inl rfl, Or.inl rfl, Or.inl rfl, Or.inl rfl, Or.inl rfl, trivial⟩ (ihlp22_33 (i23) (i24) (i25) ((i26 + 1)) (p57) (p58) (f49) (f50) (f51) m56 hIm56 hFm56  km56_70_822 km56_70_823 km56_69_3 km56_69_4 fm56_70 fm56_76 fm56_77 fm56_78 (by omega) (by omega) (by omega) (by omega) (by omega) (by omega) (by omega) (by omega) (by omega) (by omega) (by omega) (by omega) (by first | exact cdq_n hv0lp22_33 (fun z => by have w := hM.symm.trans z; omega) (by omega) | exact cdq_y hv0lp22_33 (hM.trans (by omega)) rfl hCnt hS2 hNl hW rfl (Or.inr hXb) (Or.inr hXv) (by omega) (by omega) | exact cdq_y (xb := 0) (xv := 0) hv0lp22_33 (hM.trans (by omega)) rfl hCnt hS2 hNl hW rfl (Or.inl (by omega)) (Or.inl (by omega)) (by omega) (by omega)) (by omega) (by omega) (by omega) (by omega))
                        · intro h81
                          refine zw_4 zr_195_135 rfl ?_
                          refine zw_9 (L' := [(2, 69), (0, a0), (0, i5), (1, i24), (9, 0), (1, i25), (9, 0), (0, i5), (0, i26), (1, i53), (9, 0), (1, i54), (9, 0), (1, (x70 - i53)), (9, 0)]) zr_195_137 (Nat.le_of_ble_eq_true rfl) rfl ?_
                          refine zw_6 zr_195_138 rfl ?_
                          refine zw_13 (L' := [(2, 69), (0, a0), (0, i5), (1, (x70 - i53)), (9, 0), (1, i25), (9, 0), (0, i5), (0, i26), (1, i53), (9, 0), (1, i54), (9, 0), (1, (x70 - i53)), (9, 0)]) zr_195_140 (Nat.le_of_ble_eq_true rfl) rfl ?_
                          refine zw_6 zr_195_141 rfl ?_
                          refine zw_14 (L' := [(2, 69), (0, a0), (0, i5), (1, (x70 - i53)), (9, 0), (1, i54), (9, 0), (0, i5), (0, i26), (1, i53), (9, 0), (1, i54), (9, 0), (1, (x70 - i53)), (9, 0)]) zr_195_143 (Nat.le_of_ble_eq_true rfl) rfl ?_
                          refine zw_15 (c := 1) (L' := [(2, 69), (0, a0), (0, i5), (1, (x70 - i53)), (9, 0), (1, i54), (9, 0), (0, i5), (0, (i26 + 1)), (1, i53), (9, 0), (1, i54), (9, 0), (1, (x70 - i53)), (9, 0)]) zr_195_145 rfl (by decide) (by omega) rfl ?_
                          refine zw_42 zr_195_148 ?_
                          exact zw_less (L := [(2, 69), (0, a0), (0, i5), (1, (x70 - i53)), (9, 0), (1, i54), (9, 0), (0, i5), (0, (i26 + 1)), (9, 0), (9, 0), (9, 0), (9, 0), (9, 0), (9, 0)]) ⟨Or.inr rfl, Or.inr rfl, Or.inr rfl, Or.inr rfl, Or.inl rfl, Or.inr rfl, Or.inl rfl, Or.inr rfl, Or.inr rfl, Or.inl rfl, Or.inl rfl, Or.inl rfl, Or.inl rfl, Or.inl rfl, Or.inl rfl, trivial⟩ (ihlp22_33 (i5) ((x70 - i53)) (i54) ((i26 + 1)) (p57) (p58) (f49) (f50) (f51) m56 hIm56 hFm56  km56_70_822 km56_70_823 km56_69_3 km56_69_4 fm56_70 fm56_76 fm56_77 fm56_78 (by omega) (by omega) (by omega) (by omega) (by omega) (by omega) (by omega) (by omega) (by omega) (by omega) (by omega) (by omega) (by first | exact cdq_n hv0lp22_33 (fun z => by have w := hM.symm.trans z; omega) (by omega) | exact cdq_y hv0lp22_33 (hM.trans (by omega)) rfl hCnt hS2 hNl hW rfl (Or.inr hXb) (Or.inr hXv) (by omega) (by omega) | exact cdq_y (xb := 0) (xv := 0) hv0lp22_33 (hM.trans (by omega)) rfl hCnt hS2 hNl hW rfl (Or.inl (by omega)) (Or.inl (by omega)) (by omega) (by omega)) (by omega) (by omega) (by omega) (by omega))
                    · intro h83
                      refine zw_7 zr_195_65 rfl ?_
                      refine zw_4 zr_195_66 rfl ?_
                      refine zw_4 zr_195_68 rfl ?_
                      refine zw_C zr_195_70 (Or.inl rfl) zm_172 rfl rfl ⟨Nat.le_of_ble_eq_true rfl, Nat.le_of_ble_eq_true rfl, Nat.le_of_ble_eq_true rfl, rfl, by decide⟩ (by omega) (th_172 (d := d - 1) (by omega) hIm56 (a0 := i55) (a1 := i26)   (F70 := F70)  fm56_70 (by omega) (by omega) ) ?_
                      rintro _ _ ⟨r84, rfl, hr84a, hr84b, rfl, po0_r84⟩
                      show zW E (d) 195 73 [(2, 69), (0, a0), (0, i23), (1, i24), (9, 0), (1, i25), (9, 0), (0, i5), (0, i26), (1, i53), (9, 0), (1, i54), (9, 0), (0, i55), (9, 0)] [(0, r84)] m56 Q
                      rw [e823] at po0_r84
                      have hM := (hmv_m F70 (p := i55) (y := i26) (n := g1) (by omega)).symm.trans po0_r84.symm
                      have z85 := zcgh F70 (i55) (i5) (i26) g1.toNat
                      refine zw_40_1 zr_195_73 ?_ ?_
                      · intro h86
                        refine zw_15 (c := 1) (L' := [(2, 69), (0, a0), (0, i23), (1, i24), (9, 0), (1, i25), (9, 0), (0, i5), (0, i26), (1, i53), (9, 0), (1, i54), (9, 0), (0, (i55 + 1)), (9, 0)]) zr_195_95 rfl (by decide) (by omega) rfl ?_
                        refine zw_42 zr_195_98 ?_
                        exact zw_less (L := [(2, 69), (0, a0), (0, i23), (1, i24), (9, 0), (1, i25), (9, 0), (0, i5), (0, i26), (1, i53), (9, 0), (1, i54), (9, 0), (0, (i55 + 1)), (9, 0)]) ⟨Or.inr rfl, Or.inr rfl, Or.inr rfl, Or.inr rfl, Or.inl rfl, Or.inr rfl, Or.inl rfl, Or.inr rfl, Or.inr rfl, Or.inr rfl, Or.inl rfl, Or.inr rfl, Or.inl rfl, Or.inr rfl, Or.inl rfl, trivial⟩ (ihlp56_59 (i53) (i54) ((i55 + 1)) (p57) (p58) m56 hIm56 hFm56  km56_70_822 km56_70_823 km56_69_3 km56_69_4 fm56_70 fm56_76 fm56_77 fm56_78 (by omega) (by omega) (by omega) (by omega) (by omega) (by omega) (by omega) (by omega) (by omega) (by omega) (by omega) (by omega) (by first | exact smp_t hv2lp56_59 (by omega) (Or.inl ⟨hM.trans (by omega), qzz, rfl⟩) | exact smp_t (x := 0) hv2lp56_59 (by omega) (Or.inr ⟨fun z => by have w := hM.symm.trans z; omega, rfl⟩)) (by first | exact smp_t hv3lp56_59 (by omega) (Or.inl ⟨hM.trans (by omega), rfl, rfl⟩) | exact smp_t (x := 0) hv3lp56_59 (by omega) (Or.inr ⟨fun z => by have w := hM.symm.trans z; omega, rfl⟩)) (by omega) (hv5lp56_59) (by omega) (by omega))
                      · intro h90
                        refine zw_6 zr_195_76 rfl ?_
                        refine zw_7 zr_195_78 rfl ?_
                        refine zw_46r (s := 76) zr_195_79 rfl rfl rfl rfl ?_
                        refine zw_4 zr_195_82 rfl ?_
                        refine zw_48 (c := 76) (len := 10) zr_195_84 rfl rfl (by omega) (by omega) ?_
                        intro x91 ex91
                        have bx91 := hIm56.ra (c := 76) (len := 10) (k := (i55).toNat) rfl (by omega)
                        rw [← ex91] at bx91
                        have qx91 : x91 = f49 (i55).toNat := by rw [← fm56_76]; exact ex91
                        clear ex91
                        have hb : -100000 ≤ x91 ∧ x91 ≤ 100000 := by rw [qx91]; exact (hv5lp56_59 (i55).toNat (by omega)).2
                        refine zw_36 zr_195_85 ?_
                        refine zw_27 zr_195_86 (by omega) ?_
                        refine zw_14 (L' := [(2, 69), (0, a0), (0, i23), (1, i24), (9, 0), (1, i25), (9, 0), (0, i5), (0, i26), (1, (i53 + x91)), (9, 0), (1, i54), (9, 0), (0, i55), (9, 0)]) zr_195_87 (Nat.le_of_ble_eq_true rfl) rfl ?_
                        refine zw_6 zr_195_89 rfl ?_
                        refine zw_push zr_195_91 ?_
                        refine zw_27 zr_195_92 (by omega) ?_
                        refine zw_14 (L' := [(2, 69), (0, a0), (0, i23), (1, i24), (9, 0), (1, i25), (9, 0), (0, i5), (0, i26), (1, (i53 + x91)), (9, 0), (1, (i54 + 1)), (9, 0), (0, i55), (9, 0)]) zr_195_93 (Nat.le_of_ble_eq_true rfl) rfl ?_
                        refine zw_15 (c := 1) (L' := [(2, 69), (0, a0), (0, i23), (1, i24), (9, 0), (1, i25), (9, 0), (0, i5), (0, i26), (1, (i53 + x91)), (9, 0), (1, (i54 + 1)), (9, 0), (0, (i55 + 1)), (9, 0)]) zr_195_95 rfl (by decide) (by omega) rfl ?_
                        refine zw_42 zr_195_98 ?_
                        exact zw_less (L := [(2, 69), (0, a0), (0, i23), (1, i24), (9, 0), (1, i25), (9, 0), (0, i5), (0, i26), (1, (i53 + x91)), (9, 0), (1, (i54 + 1)), (9, 0), (0, (i55 + 1)), (9, 0)]) ⟨Or.inr rfl, Or.inr rfl, Or.inr rfl, Or.inr rfl, Or.inl rfl, Or.inr rfl, Or.inl rfl, Or.inr rfl, Or.inr rfl, Or.inr rfl, Or.inl rfl, Or.inr rfl, Or.inl rfl, Or.inr rfl, Or.inl rfl, trivial⟩ (ihlp56_59 ((i53 + x91)) ((i54 + 1)) ((i55 + 1)) (p57) (p58) m56 hIm56 hFm56  km56_70_822 km56_70_823 km56_69_3 km56_69_4 fm56_70 fm56_76 fm56_77 fm56_78 (by omega) (by omega) (by omega) (by omega) (by omega) (by omega) (by omega) (by omega) (by omega) (by omega) (by omega) (by omega) (by first | exact smp_t hv2lp56_59 (by omega) (Or.inl ⟨hM.trans (by omega), qx91, rfl⟩) | exact smp_t (x := 0) hv2lp56_59 (by omega) (Or.inr ⟨fun z => by have w := hM.symm.trans z; omega, rfl⟩)) (by first | exact smp_t hv3lp56_59 (by omega) (Or.inl ⟨hM.trans (by omega), rfl, rfl⟩) | exact smp_t (x := 0) hv3lp56_59 (by omega) (Or.inr ⟨fun z => by have w := hM.symm.trans z; omega, rfl⟩)) (by omega) (hv5lp56_59) (by omega) (by omega))
                exact lp56_59 _ (0) (0) (0) (p28) (p29) m48 hIm48 hFm48  km48_70_822 km48_70_823 km48_69_3 km48_69_4 fm48_70 fm48_76 fm48_77 fm48_78 (by omega) (by omega) (by omega) (by omega) (by omega) (by omega) (by omega) (by omega) (by omega) (by omega) (by omega) (by omega) (by rfl) (by rfl) (by omega) (hN) (by omega) (Nat.lt_succ_self _)
        exact lp22_33 _ (i2) (i3) (i4) (0) (p7) (p8) (f9) (f10) (f11) m6 hIm6 hFm6  km6_70_822 km6_70_823 km6_69_3 km6_69_4 fm6_70 fm6_76 fm6_77 fm6_78 (by omega) (by omega) (by omega) (by omega) (by omega) (by omega) (by omega) (by omega) (by omega) (by omega) (by omega) (by omega) (hv0lp10_12) (by omega) (by omega) (by omega) (Nat.lt_succ_self _)
  exact lp10_12 _ ((-1)) (0) (1) (0) (g2) (g3) (F76) (F77) (F78) m0 hI0 hF0  hg0 hg1 hg2 hg3 hG70 hG76 hG77 hG78 (by omega) (by omega) (by omega) (by omega) (by omega) (by omega) (by omega) (by omega) (by omega) (by omega) (by omega) (by omega) (cdq_0) (by omega) (by omega) (by omega) (Nat.lt_succ_self _)

abbrev W_196 : List (Nat × Nat) := [(69, 3), (69, 4), (69, 5), (69, 6), (69, 7), (69, 9), (69, 11), (69, 13), (69, 17), (69, 18), (69, 23), (69, 24), (73, 1000), (74, 1000), (75, 1000), (76, 1000), (77, 1000), (78, 1000), (82, 1000)]
set_option maxHeartbeats 8000000 in
theorem th_196 {E : zE} {d : Nat} {m0 : zM} {a0 : Int} {a1 : Int} {a2 : Int} {g0 : Int} {g1 : Int} {g2 : Int} {g3 : Int} {F70 : Nat → Int} (hd : 9 ≤ d) (hI0 : zInv m0) (hg0 : m0 70 822 = g0) (hg1 : m0 70 823 = g1) (hg2 : m0 69 3 = g2) (hg3 : m0 69 4 = g3) (hG70 : m0 70 = F70) (ha0 : (-2147483648) ≤ a0 ∧ a0 ≤ 2147483647) (ha1 : (-2147483648) ≤ a1 ∧ a1 ≤ 2147483647) (ha2 : (-2147483648) ≤ a2 ∧ a2 ≤ 2147483647) (hp0 : srt (fun i => F70 (90 + 6 * i)) g1.toNat) : zC E d 196 [(2, 69), (0, a0), (0, a1), (0, a2)] m0 (fun v m' => ∃ r : Int, v = (0, r) ∧ (-2) ≤ r ∧ r ≤ 9 ∧ zInv m' ∧ zFr W_196 m0 m' ∧ ((r = -2 ∧ (a0 < 0 ∨ 3 < a0 ∨ a1 < 0 ∨ 2 < a1 ∨ (a1 = 1 ∧ (a2 < 1 ∨ 9 < a2)))) ∨ ((0 ≤ a0 ∧ a0 ≤ 3 ∧ 0 ≤ a1 ∧ a1 ≤ 2 ∧ (a1 ≠ 1 ∨ (1 ≤ a2 ∧ a2 ≤ 9))) ∧ ∃ x y, bBe a1 a2 g0.toNat (mHm (fun i => F70 (90 + 6 * i)) (fun i => F70 (91 + 6 * i)) (fun i => F70 (92 + 6 * i)) g1) (nHm (cht F70 a0) (fun i => F70 (91 + 6 * i)) (fun i => F70 (92 + 6 * i)) (fun i => F70 (93 + 6 * i)) (fun i => F70 (90 + 6 * i)) (fun i => F70 (94 + 6 * i)) (F70 (450 + 52 * a0).toNat) g1) 100 r x y ∧ (a1 ≠ 2 ∨ r < 0 ∨ ((-2000000 ≤ x ∧ x ≤ 2000000 ∧ 1 ≤ y ∧ y ≤ 10) ∧ zTl x y (m' 69 3) (m' 69 4))))) ∧ ((a1 = 2 ∧ 0 ≤ r) ∨ ((m' 69 3) = g2 ∧ (m' 69 4) = g3))) := by
  have hF0 : zFr W_196 m0 m0 := zFr.rfl
  have bg0 : 0 ≤ m0 70 822 ∧ m0 70 822 ≤ 10 := ib_70_players hI0 (by omega)
  rw [hg0] at bg0
  have bg1 : 0 ≤ m0 70 823 ∧ m0 70 823 ≤ 60 := ib_70_meetings hI0 (by omega)
  rw [hg1] at bg1
  have bg2 := hI0.fl (c := 69) (k := 3) rfl
  rw [hg2] at bg2
  have bg3 := hI0.fl (c := 69) (k := 4) rfl
  rw [hg3] at bg3
  generalize hQ : (fun (v : zV) (m' : zM) => ∃ r : Int, v = (0, r) ∧ (-2) ≤ r ∧ r ≤ 9 ∧ zInv m' ∧ zFr W_196 m0 m' ∧ ((r = -2 ∧ (a0 < 0 ∨ 3 < a0 ∨ a1 < 0 ∨ 2 < a1 ∨ (a1 = 1 ∧ (a2 < 1 ∨ 9 < a2)))) ∨ ((0 ≤ a0 ∧ a0 ≤ 3 ∧ 0 ≤ a1 ∧ a1 ≤ 2 ∧ (a1 ≠ 1 ∨ (1 ≤ a2 ∧ a2 ≤ 9))) ∧ ∃ x y, bBe a1 a2 g0.toNat (mHm (fun i => F70 (90 + 6 * i)) (fun i => F70 (91 + 6 * i)) (fun i => F70 (92 + 6 * i)) g1) (nHm (cht F70 a0) (fun i => F70 (91 + 6 * i)) (fun i => F70 (92 + 6 * i)) (fun i => F70 (93 + 6 * i)) (fun i => F70 (90 + 6 * i)) (fun i => F70 (94 + 6 * i)) (F70 (450 + 52 * a0).toNat) g1) 100 r x y ∧ (a1 ≠ 2 ∨ r < 0 ∨ ((-2000000 ≤ x ∧ x ≤ 2000000 ∧ 1 ≤ y ∧ y ≤ 10) ∧ zTl x y (m' 69 3) (m' 69 4))))) ∧ ((a1 = 2 ∧ 0 ≤ r) ∨ ((m' 69 3) = g2 ∧ (m' 69 4) = g3))) = Q
  show zW E d 196 0 [(2, 69), (0, a0), (0, a1), (0, a2), (9, 0), (9, 0), (9, 0)] [] m0 Q
  refine zw_3 zr_196_0 rfl ?_
  refine zw_C zr_196_1 (Or.inr rfl) zm_148 rfl rfl ⟨Nat.le_of_ble_eq_true rfl, Nat.le_of_ble_eq_true rfl, Nat.le_of_ble_eq_true rfl, rfl, by decide⟩ (by omega) (P := (fun v m' => zW E (d) 196 4 [(2, 69), (0, a0), (0, a1), (0, a2), (9, 0), (9, 0), (9, 0)] (if v.1 = 9 then [] else v :: []) m' Q)) ?_ (fun _ _ h => h)
  generalize hQ1 : (fun v m' => zW E (d) 196 4 [(2, 69), (0, a0), (0, a1), (0, a2), (9, 0), (9, 0), (9, 0)] (if v.1 = 9 then [] else v :: []) m' Q) = Q1
  show zW E (d - 1) 148 0 [(0, a0)] [] m0 Q1
  refine zw_3 zr_148_0 rfl ?_
  refine zw_36 zr_148_1 ?_
  refine zw_push zr_148_2 ?_
  refine zw_push zr_148_3 ?_
  refine zw_C zr_148_6 (Or.inr rfl) zm_140 rfl rfl ⟨Nat.le_of_ble_eq_true rfl, Nat.le_of_ble_eq_true rfl, Nat.le_of_ble_eq_true rfl, rfl, by decide⟩ (by omega) (P := (fun v m' => zW E (d - 1) 148 9 [(0, a0)] (if v.1 = 9 then [] else v :: []) m' Q1)) ?_ (fun _ _ h => h)
  generalize hQ2 : (fun v m' => zW E (d - 1) 148 9 [(0, a0)] (if v.1 = 9 then [] else v :: []) m' Q1) = Q2
  show zW E (d - 1 - 1) 140 0 [(1, a0), (9, 0), (1, 0), (9, 0), (1, 3), (9, 0)] [] m0 Q2
  refine zw_5 zr_140_0 rfl ?_
  refine zw_5 zr_140_1 rfl ?_
  refine zw_39_0 zr_140_2 zr_140_3 ?_ ?_
  · intro h1
    refine zw_push zr_140_17 ?_
    refine zw_R zr_140_18 (by decide) zm_140 (v := (0, 0)) (zRetB (by omega)) ?_
    rw [← hQ2]
    show zW E (d - 1) 148 9 [(0, a0)] [(0, 0)] m0 Q1
    refine zw_R zr_148_9 (by decide) zm_148 (v := (0, 0)) (zRetB (by omega)) ?_
    rw [← hQ1]
    show zW E (d) 196 4 [(2, 69), (0, a0), (0, a1), (0, a2), (9, 0), (9, 0), (9, 0)] [(0, 0)] m0 Q
    refine zw_40_1 zr_196_4 ?_ ?_
    · intro h2
      refine zw_push zr_196_36 ?_
      refine zw_R zr_196_38 (by decide) zm_196 (v := (0, (-2))) rfl ?_
      rw [← hQ]; exact ⟨_, rfl, by omega, by omega, hI0, hF0, by first | exact Or.inl ⟨rfl, by omega⟩ | exact Or.inr ⟨by omega, _, _, cdb_P zz (by omega), Or.inl (by omega)⟩ | (obtain ⟨x, y, z, w⟩ := zz; have e : a1 = 2 := (by omega); exact Or.inr ⟨by omega, x, y, (by rw [e]; exact bBe_k z), Or.inr (by rcases w with w | w; exact Or.inl (by omega); exact Or.inr ⟨w.2.1, by rw [hg2, hg3]; exact w.2.2⟩)⟩), by first | exact Or.inr ⟨hg2, hg3⟩ | exact Or.inr ⟨by rw [hg2]; omega, by rw [hg3]; omega⟩ | (obtain ⟨x, y, z, w⟩ := zz; rcases w with w | w; exact Or.inr ⟨hg2.trans w.2.1, hg3.trans w.2.2⟩; exact Or.inl (by omega))⟩
    · intro h5; omega
  · intro h6
    refine zw_5 zr_140_6 rfl ?_
    refine zw_6 zr_140_7 rfl ?_
    refine zw_39_2 zr_140_9 zr_140_10 ?_ ?_
    · intro h7
      refine zw_push zr_140_17 ?_
      refine zw_R zr_140_18 (by decide) zm_140 (v := (0, 0)) (zRetB (by omega)) ?_
      rw [← hQ2]
      show zW E (d - 1) 148 9 [(0, a0)] [(0, 0)] m0 Q1
      refine zw_R zr_148_9 (by decide) zm_148 (v := (0, 0)) (zRetB (by omega)) ?_
      rw [← hQ1]
      show zW E (d) 196 4 [(2, 69), (0, a0), (0, a1), (0, a2), (9, 0), (9, 0), (9, 0)] [(0, 0)] m0 Q
      refine zw_40_1 zr_196_4 ?_ ?_
      · intro h8
        refine zw_push zr_196_36 ?_
        refine zw_R zr_196_38 (by decide) zm_196 (v := (0, (-2))) rfl ?_
        rw [← hQ]; exact ⟨_, rfl, by omega, by omega, hI0, hF0, by first | exact Or.inl ⟨rfl, by omega⟩ | exact Or.inr ⟨by omega, _, _, cdb_P zz (by omega), Or.inl (by omega)⟩ | (obtain ⟨x, y, z, w⟩ := zz; have e : a1 = 2 := (by omega); exact Or.inr ⟨by omega, x, y, (by rw [e]; exact bBe_k z), Or.inr (by rcases w with w | w; exact Or.inl (by omega); exact Or.inr ⟨w.2.1, by rw [hg2, hg3]; exact w.2.2⟩)⟩), by first | exact Or.inr ⟨hg2, hg3⟩ | exact Or.inr ⟨by rw [hg2]; omega, by rw [hg3]; omega⟩ | (obtain ⟨x, y, z, w⟩ := zz; rcases w with w | w; exact Or.inr ⟨hg2.trans w.2.1, hg3.trans w.2.2⟩; exact Or.inl (by omega))⟩
      · intro h11; omega
    · intro h12
      refine zw_push zr_140_13 ?_
      refine zw_42 zr_140_14 ?_
      refine zw_R zr_140_18 (by decide) zm_140 (v := (0, 1)) (zRetB (by omega)) ?_
      rw [← hQ2]
      show zW E (d - 1) 148 9 [(0, a0)] [(0, 1)] m0 Q1
      refine zw_R zr_148_9 (by decide) zm_148 (v := (0, 1)) (zRetB (by omega)) ?_
      rw [← hQ1]
      show zW E (d) 196 4 [(2, 69), (0, a0), (0, a1), (0, a2), (9, 0), (9, 0), (9, 0)] [(0, 1)] m0 Q
      refine zw_40_1 zr_196_4 ?_ ?_
      · intro h13; omega
      · intro h14
        refine zw_3 zr_196_7 rfl ?_
        refine zw_36 zr_196_8 ?_
        refine zw_push zr_196_9 ?_
        refine zw_push zr_196_10 ?_
        refine zw_C zr_196_13 (Or.inr rfl) zm_140 rfl rfl ⟨Nat.le_of_ble_eq_true rfl, Nat.le_of_ble_eq_true rfl, Nat.le_of_ble_eq_true rfl, rfl, by decide⟩ (by omega) (P := (fun v m' => zW E (d) 196 16 [(2, 69), (0, a0), (0, a1), (0, a2), (9, 0), (9, 0), (9, 0)] (if v.1 = 9 then [] else v :: []) m' Q)) ?_ (fun _ _ h => h)
        generalize hQ1 : (fun v m' => zW E (d) 196 16 [(2, 69), (0, a0), (0, a1), (0, a2), (9, 0), (9, 0), (9, 0)] (if v.1 = 9 then [] else v :: []) m' Q) = Q1
        show zW E (d - 1) 140 0 [(1, a1), (9, 0), (1, 0), (9, 0), (1, 2), (9, 0)] [] m0 Q1
        refine zw_5 zr_140_0 rfl ?_
        refine zw_5 zr_140_1 rfl ?_
        refine zw_39_0 zr_140_2 zr_140_3 ?_ ?_
        · intro h15
          refine zw_push zr_140_17 ?_
          refine zw_R zr_140_18 (by decide) zm_140 (v := (0, 0)) (zRetB (by omega)) ?_
          rw [← hQ1]
          show zW E (d) 196 16 [(2, 69), (0, a0), (0, a1), (0, a2), (9, 0), (9, 0), (9, 0)] [(0, 0)] m0 Q
          refine zw_40_1 zr_196_16 ?_ ?_
          · intro h16
            refine zw_push zr_196_36 ?_
            refine zw_R zr_196_38 (by decide) zm_196 (v := (0, (-2))) rfl ?_
            rw [← hQ]; exact ⟨_, rfl, by omega, by omega, hI0, hF0, by first | exact Or.inl ⟨rfl, by omega⟩ | exact Or.inr ⟨by omega, _, _, cdb_P zz (by omega), Or.inl (by omega)⟩ | (obtain ⟨x, y, z, w⟩ := zz; have e : a1 = 2 := (by omega); exact Or.inr ⟨by omega, x, y, (by rw [e]; exact bBe_k z), Or.inr (by rcases w with w | w; exact Or.inl (by omega); exact Or.inr ⟨w.2.1, by rw [hg2, hg3]; exact w.2.2⟩)⟩), by first | exact Or.inr ⟨hg2, hg3⟩ | exact Or.inr ⟨by rw [hg2]; omega, by rw [hg3]; omega⟩ | (obtain ⟨x, y, z, w⟩ := zz; rcases w with w | w; exact Or.inr ⟨hg2.trans w.2.1, hg3.trans w.2.2⟩; exact Or.inl (by omega))⟩
          · intro h19; omega
        · intro h20
          refine zw_5 zr_140_6 rfl ?_
          refine zw_6 zr_140_7 rfl ?_
          refine zw_39_2 zr_140_9 zr_140_10 ?_ ?_
          · intro h21
            refine zw_push zr_140_17 ?_
            refine zw_R zr_140_18 (by decide) zm_140 (v := (0, 0)) (zRetB (by omega)) ?_
            rw [← hQ1]
            show zW E (d) 196 16 [(2, 69), (0, a0), (0, a1), (0, a2), (9, 0), (9, 0), (9, 0)] [(0, 0)] m0 Q
            refine zw_40_1 zr_196_16 ?_ ?_
            · intro h22
              refine zw_push zr_196_36 ?_
              refine zw_R zr_196_38 (by decide) zm_196 (v := (0, (-2))) rfl ?_
              rw [← hQ]; exact ⟨_, rfl, by omega, by omega, hI0, hF0, by first | exact Or.inl ⟨rfl, by omega⟩ | exact Or.inr ⟨by omega, _, _, cdb_P zz (by omega), Or.inl (by omega)⟩ | (obtain ⟨x, y, z, w⟩ := zz; have e : a1 = 2 := (by omega); exact Or.inr ⟨by omega, x, y, (by rw [e]; exact bBe_k z), Or.inr (by rcases w with w | w; exact Or.inl (by omega); exact Or.inr ⟨w.2.1, by rw [hg2, hg3]; exact w.2.2⟩)⟩), by first | exact Or.inr ⟨hg2, hg3⟩ | exact Or.inr ⟨by rw [hg2]; omega, by rw [hg3]; omega⟩ | (obtain ⟨x, y, z, w⟩ := zz; rcases w with w | w; exact Or.inr ⟨hg2.trans w.2.1, hg3.trans w.2.2⟩; exact Or.inl (by omega))⟩
            · intro h25; omega
          · intro h26
            refine zw_push zr_140_13 ?_
            refine zw_42 zr_140_14 ?_
            refine zw_R zr_140_18 (by decide) zm_140 (v := (0, 1)) (zRetB (by omega)) ?_
            rw [← hQ1]
            show zW E (d) 196 16 [(2, 69), (0, a0), (0, a1), (0, a2), (9, 0), (9, 0), (9, 0)] [(0, 1)] m0 Q
            refine zw_40_1 zr_196_16 ?_ ?_
            · intro h27; omega
            · intro h28
              refine zw_3 zr_196_19 rfl ?_
              refine zw_push zr_196_20 ?_
              refine zw_41_4 zr_196_21 ?_ ?_
              · intro h29
                refine zw_3 zr_196_39 rfl ?_
                refine zw_push zr_196_40 ?_
                refine zw_41_4 zr_196_41 ?_ ?_
                · intro h30
                  refine zw_push zr_196_50 ?_
                  refine zw_10 (L' := [(2, 69), (0, a0), (0, a1), (0, a2), (0, (-1)), (9, 0), (9, 0)]) zr_196_51 (Nat.le_of_ble_eq_true rfl) rfl ?_
                  refine zw_push zr_196_53 ?_
                  refine zw_10 (L' := [(2, 69), (0, a0), (0, a1), (0, a2), (0, (-1)), (0, 0), (9, 0)]) zr_196_54 (Nat.le_of_ble_eq_true rfl) rfl ?_
                  refine zw_push zr_196_56 ?_
                  refine zw_10 (L' := [(2, 69), (0, a0), (0, a1), (0, a2), (0, (-1)), (0, 0), (0, 0)]) zr_196_57 (Nat.le_of_ble_eq_true rfl) rfl ?_
                  have lp59_37 : ∀ (nlp59_37 : Nat) (i31 i32 i33 p35 p36 : Int) (m34 : zM), zInv m34 → zFr W_196 m0 m34 → m34 70 822 = g0 → m34 70 823 = g1 → m34 69 3 = p35 → m34 69 4 = p36 → m34 70 = F70 → (-1) ≤ i31 → i31 ≤ 9 → (-2147483648) ≤ i32 → i32 ≤ 2147483647 → 0 ≤ i33 → i33 ≤ 10 → (-9223372036854775808) ≤ p35 → p35 ≤ 9223372036854775807 → (-9223372036854775808) ≤ p36 → p36 ≤ 9223372036854775807 → (zBe (cdb a1 a2 g0.toNat (mHm (fun i => F70 (90 + 6 * i)) (fun i => F70 (91 + 6 * i)) (fun i => F70 (92 + 6 * i)) g1) (nHm (cht F70 a0) (fun i => F70 (91 + 6 * i)) (fun i => F70 (92 + 6 * i)) (fun i => F70 (93 + 6 * i)) (fun i => F70 (90 + 6 * i)) (fun i => F70 (94 + 6 * i)) (F70 (450 + 52 * a0).toNat) g1) i33) i31 i32 1) → (-1 ≤ i31 ∧ i33 ≤ g0) → (p35 = g2 ∧ p36 = g3) → (10 - i33).toNat < nlp59_37 → zW E (d) 196 59 [(2, 69), (0, a0), (0, a1), (0, a2), (0, i31), (0, i32), (0, i33)] [] m34 Q := by
                    intro nlp59_37
                    induction nlp59_37 with
                    | zero =>
                      intros
                      exact absurd (by assumption : _ < 0) (Nat.not_lt_zero _)
                    | succ nlp59_37 ihlp59_37 =>
                      intro i31 i32 i33 p35 p36 m34 hIm34 hFm34 km34_70_822 km34_70_823 km34_69_3 km34_69_4 fm34_70 li31 ui31 li32 ui32 li33 ui33 lp35 up35 lp36 up36 hv0lp59_37 hv1lp59_37 hv2lp59_37 hmlp59_37
                      refine zw_4 zr_196_59 rfl ?_
                      refine zw_7 zr_196_61 rfl ?_
                      refine zw_C zr_196_62 (Or.inl rfl) zm_141 rfl rfl ⟨Nat.le_of_ble_eq_true rfl, Nat.le_of_ble_eq_true rfl, Nat.le_of_ble_eq_true rfl, rfl, by decide⟩ (by omega) (P := (fun v m' => zW E (d) 196 65 [(2, 69), (0, a0), (0, a1), (0, a2), (0, i31), (0, i32), (0, i33)] (if v.1 = 9 then [(0, i33)] else v :: [(0, i33)]) m' Q)) ?_ (fun _ _ h => h)
                      generalize hQ1 : (fun v m' => zW E (d) 196 65 [(2, 69), (0, a0), (0, a1), (0, a2), (0, i31), (0, i32), (0, i33)] (if v.1 = 9 then [(0, i33)] else v :: [(0, i33)]) m' Q) = Q1
                      show zW E (d - 1) 141 0 [(2, 69)] [] m34 Q1
                      refine zw_7 zr_141_0 rfl ?_
                      refine zw_46r (s := 70) zr_141_1 rfl rfl rfl rfl ?_
                      refine zw_push zr_141_4 ?_
                      refine zw_48k (c := 70) (len := 826) zr_141_7 rfl rfl (by omega) (by omega) (show (822 : Int).toNat = 822 by omega) km34_70_822 ?_
                      refine zw_R zr_141_8 (by decide) zm_141 (v := (0, g0)) rfl ?_
                      rw [← hQ1]
                      show zW E (d) 196 65 [(2, 69), (0, a0), (0, a1), (0, a2), (0, i31), (0, i32), (0, i33)] [(0, g0), (0, i33)] m34 Q
                      refine zw_41_3 zr_196_65 ?_ ?_
                      · intro h39
                        refine zw_4 zr_196_118 rfl ?_
                        refine zw_R zr_196_120 (by decide) zm_196 (v := (0, i31)) rfl ?_
                        rw [← hQ]; exact ⟨_, rfl, by omega, by omega, hIm34, hFm34, by first | exact Or.inl ⟨rfl, by omega⟩ | exact Or.inr ⟨by omega, _, _, cdb_P hv0lp59_37 (by omega), Or.inl (by omega)⟩ | (obtain ⟨x, y, z, w⟩ := zz; have e : a1 = 2 := (by omega); exact Or.inr ⟨by omega, x, y, (by rw [e]; exact bBe_k z), Or.inr (by rcases w with w | w; exact Or.inl (by omega); exact Or.inr ⟨w.2.1, by rw [km34_69_3, km34_69_4]; exact w.2.2⟩)⟩), by first | exact Or.inr ⟨km34_69_3, km34_69_4⟩ | exact Or.inr ⟨by rw [km34_69_3]; omega, by rw [km34_69_4]; omega⟩ | (obtain ⟨x, y, z, w⟩ := zz; rcases w with w | w; exact Or.inr ⟨km34_69_3.trans w.2.1, km34_69_4.trans w.2.2⟩; exact Or.inl (by omega))⟩
                      · intro h42
                        refine zw_7 zr_196_68 rfl ?_
                        refine zw_3 zr_196_69 rfl ?_
                        refine zw_4 zr_196_70 rfl ?_
                        refine zw_3 zr_196_72 rfl ?_
                        refine zw_40_4 zr_196_73 ?_ ?_
                        · intro h43
                          refine zw_3 zr_196_80 rfl ?_
                          refine zw_C zr_196_81 (Or.inl rfl) zm_194 rfl rfl ⟨Nat.le_of_ble_eq_true rfl, Nat.le_of_ble_eq_true rfl, Nat.le_of_ble_eq_true rfl, rfl, by decide⟩ (by omega) (th_194 (d := d - 1) (by omega) hIm34 (a0 := a0) (a1 := i33) (a2 := a2) (g0 := g1)  (F70 := F70) (F82 := m34 82) km34_70_823 fm34_70 rfl (by omega) (by omega) (by omega) (hp0)) ?_
                          rintro _ m45 ⟨r46, rfl, hr46a, hr46b, hIm45, gm45, po0_r46⟩
                          have hFm45 : zFr W_196 m0 m45 := hFm34.trans gm45 rfl
                          have km45_70_822 : m45 70 822 = g0 := (gm45 70 822 rfl).trans km34_70_822
                          have km45_70_823 : m45 70 823 = g1 := (gm45 70 823 rfl).trans km34_70_823
                          have km45_69_3 : m45 69 3 = p35 := (gm45 69 3 rfl).trans km34_69_3
                          have km45_69_4 : m45 69 4 = p36 := (gm45 69 4 rfl).trans km34_69_4
                          have fm45_70 : m45 70 = F70 := (funext fun k => gm45 70 k rfl).trans fm34_70
                          obtain ⟨f47, ef47⟩ : ∃ v, m45 69 24 = v := ⟨_, rfl⟩
                          have bf47 := hIm45.fi (c := 69) (k := 24) rfl
                          rw [ef47] at bf47
                          rw [ef47] at po0_r46
                          show zW E (d) 196 84 [(2, 69), (0, a0), (0, a1), (0, a2), (0, i31), (0, i32), (0, i33)] [(0, r46)] m45 Q
                          refine zw_40_1 zr_196_84 ?_ ?_
                          · intro h48
                            refine zw_15 (c := 1) (L' := [(2, 69), (0, a0), (0, a1), (0, a2), (0, i31), (0, i32), (0, (i33 + 1))]) zr_196_112 rfl (by decide) (by omega) rfl ?_
                            refine zw_42 zr_196_115 ?_
                            exact zw_less (L := [(2, 69), (0, a0), (0, a1), (0, a2), (0, i31), (0, i32), (0, (i33 + 1))]) ⟨Or.inr rfl, Or.inr rfl, Or.inr rfl, Or.inr rfl, Or.inr rfl, Or.inr rfl, Or.inr rfl, trivial⟩ (ihlp59_37 (i31) (i32) ((i33 + 1)) (p35) (p36) m45 hIm45 hFm45  km45_70_822 km45_70_823 km45_69_3 km45_69_4 fm45_70 (by omega) (by omega) (by omega) (by omega) (by omega) (by omega) (by omega) (by omega) (by omega) (by omega) (cdb_s hv0lp59_37 po0_r46 (by omega) (by omega) (by omega)) (by omega) (by omega) (by omega))
                          · intro h50
                            refine zw_4 zr_196_87 rfl ?_
                            refine zw_push zr_196_89 ?_
                            refine zw_41_1 zr_196_90 ?_ ?_
                            · intro h51
                              refine zw_4 zr_196_102 rfl ?_
                              refine zw_10 (L' := [(2, 69), (0, a0), (0, a1), (0, a2), (0, i33), (0, i32), (0, i33)]) zr_196_104 (Nat.le_of_ble_eq_true rfl) rfl ?_
                              refine zw_7 zr_196_106 rfl ?_
                              refine zw_46i zr_196_107 ef47 rfl rfl rfl ?_
                              refine zw_10 (L' := [(2, 69), (0, a0), (0, a1), (0, a2), (0, i33), (0, f47), (0, i33)]) zr_196_110 (Nat.le_of_ble_eq_true rfl) rfl ?_
                              refine zw_15 (c := 1) (L' := [(2, 69), (0, a0), (0, a1), (0, a2), (0, i33), (0, f47), (0, (i33 + 1))]) zr_196_112 rfl (by decide) (by omega) rfl ?_
                              refine zw_42 zr_196_115 ?_
                              exact zw_less (L := [(2, 69), (0, a0), (0, a1), (0, a2), (0, i33), (0, f47), (0, (i33 + 1))]) ⟨Or.inr rfl, Or.inr rfl, Or.inr rfl, Or.inr rfl, Or.inr rfl, Or.inr rfl, Or.inr rfl, trivial⟩ (ihlp59_37 (i33) (f47) ((i33 + 1)) (p35) (p36) m45 hIm45 hFm45  km45_70_822 km45_70_823 km45_69_3 km45_69_4 fm45_70 (by omega) (by omega) (by omega) (by omega) (by omega) (by omega) (by omega) (by omega) (by omega) (by omega) (cdb_s hv0lp59_37 po0_r46 (by omega) (by omega) (by omega)) (by omega) (by omega) (by omega))
                            · intro h53
                              refine zw_7 zr_196_93 rfl ?_
                              refine zw_46i zr_196_94 ef47 rfl rfl rfl ?_
                              refine zw_4 zr_196_97 rfl ?_
                              refine zw_41_5 zr_196_99 ?_ ?_
                              · intro h54
                                refine zw_15 (c := 1) (L' := [(2, 69), (0, a0), (0, a1), (0, a2), (0, i31), (0, i32), (0, (i33 + 1))]) zr_196_112 rfl (by decide) (by omega) rfl ?_
                                refine zw_42 zr_196_115 ?_
                                exact zw_less (L := [(2, 69), (0, a0), (0, a1), (0, a2), (0, i31), (0, i32), (0, (i33 + 1))]) ⟨Or.inr rfl, Or.inr rfl, Or.inr rfl, Or.inr rfl, Or.inr rfl, Or.inr rfl, Or.inr rfl, trivial⟩ (ihlp59_37 (i31) (i32) ((i33 + 1)) (p35) (p36) m45 hIm45 hFm45  km45_70_822 km45_70_823 km45_69_3 km45_69_4 fm45_70 (by omega) (by omega) (by omega) (by omega) (by omega) (by omega) (by omega) (by omega) (by omega) (by omega) (cdb_s hv0lp59_37 po0_r46 (by omega) (by omega) (by omega)) (by omega) (by omega) (by omega))
                              · intro h56
                                refine zw_4 zr_196_102 rfl ?_
                                refine zw_10 (L' := [(2, 69), (0, a0), (0, a1), (0, a2), (0, i33), (0, i32), (0, i33)]) zr_196_104 (Nat.le_of_ble_eq_true rfl) rfl ?_
                                refine zw_7 zr_196_106 rfl ?_
                                refine zw_46i zr_196_107 ef47 rfl rfl rfl ?_
                                refine zw_10 (L' := [(2, 69), (0, a0), (0, a1), (0, a2), (0, i33), (0, f47), (0, i33)]) zr_196_110 (Nat.le_of_ble_eq_true rfl) rfl ?_
                                refine zw_15 (c := 1) (L' := [(2, 69), (0, a0), (0, a1), (0, a2), (0, i33), (0, f47), (0, (i33 + 1))]) zr_196_112 rfl (by decide) (by omega) rfl ?_
                                refine zw_42 zr_196_115 ?_
                                exact zw_less (L := [(2, 69), (0, a0), (0, a1), (0, a2), (0, i33), (0, f47), (0, (i33 + 1))]) ⟨Or.inr rfl, Or.inr rfl, Or.inr rfl, Or.inr rfl, Or.inr rfl, Or.inr rfl, Or.inr rfl, trivial⟩ (ihlp59_37 (i33) (f47) ((i33 + 1)) (p35) (p36) m45 hIm45 hFm45  km45_70_822 km45_70_823 km45_69_3 km45_69_4 fm45_70 (by omega) (by omega) (by omega) (by omega) (by omega) (by omega) (by omega) (by omega) (by omega) (by omega) (cdb_s hv0lp59_37 po0_r46 (by omega) (by omega) (by omega)) (by omega) (by omega) (by omega))
                        · intro h58
                          refine zw_push zr_196_76 ?_
                          refine zw_42 zr_196_77 ?_
                          refine zw_C zr_196_81 (Or.inl rfl) zm_194 rfl rfl ⟨Nat.le_of_ble_eq_true rfl, Nat.le_of_ble_eq_true rfl, Nat.le_of_ble_eq_true rfl, rfl, by decide⟩ (by omega) (th_194 (d := d - 1) (by omega) hIm34 (a0 := a0) (a1 := i33) (a2 := 1) (g0 := g1)  (F70 := F70) (F82 := m34 82) km34_70_823 fm34_70 rfl (by omega) (by omega) (by omega) (hp0)) ?_
                          rintro _ m60 ⟨r61, rfl, hr61a, hr61b, hIm60, gm60, po0_r61⟩
                          have hFm60 : zFr W_196 m0 m60 := hFm34.trans gm60 rfl
                          have km60_70_822 : m60 70 822 = g0 := (gm60 70 822 rfl).trans km34_70_822
                          have km60_70_823 : m60 70 823 = g1 := (gm60 70 823 rfl).trans km34_70_823
                          have km60_69_3 : m60 69 3 = p35 := (gm60 69 3 rfl).trans km34_69_3
                          have km60_69_4 : m60 69 4 = p36 := (gm60 69 4 rfl).trans km34_69_4
                          have fm60_70 : m60 70 = F70 := (funext fun k => gm60 70 k rfl).trans fm34_70
                          obtain ⟨f62, ef62⟩ : ∃ v, m60 69 24 = v := ⟨_, rfl⟩
                          have bf62 := hIm60.fi (c := 69) (k := 24) rfl
                          rw [ef62] at bf62
                          rw [ef62] at po0_r61
                          show zW E (d) 196 84 [(2, 69), (0, a0), (0, a1), (0, a2), (0, i31), (0, i32), (0, i33)] [(0, r61)] m60 Q
                          refine zw_40_1 zr_196_84 ?_ ?_
                          · intro h63
                            refine zw_15 (c := 1) (L' := [(2, 69), (0, a0), (0, a1), (0, a2), (0, i31), (0, i32), (0, (i33 + 1))]) zr_196_112 rfl (by decide) (by omega) rfl ?_
                            refine zw_42 zr_196_115 ?_
                            exact zw_less (L := [(2, 69), (0, a0), (0, a1), (0, a2), (0, i31), (0, i32), (0, (i33 + 1))]) ⟨Or.inr rfl, Or.inr rfl, Or.inr rfl, Or.inr rfl, Or.inr rfl, Or.inr rfl, Or.inr rfl, trivial⟩ (ihlp59_37 (i31) (i32) ((i33 + 1)) (p35) (p36) m60 hIm60 hFm60  km60_70_822 km60_70_823 km60_69_3 km60_69_4 fm60_70 (by omega) (by omega) (by omega) (by omega) (by omega) (by omega) (by omega) (by omega) (by omega) (by omega) (cdb_s hv0lp59_37 po0_r61 (by omega) (by omega) (by omega)) (by omega) (by omega) (by omega))
                          · intro h65
                            refine zw_4 zr_196_87 rfl ?_
                            refine zw_push zr_196_89 ?_
                            refine zw_41_1 zr_196_90 ?_ ?_
                            · intro h66
                              refine zw_4 zr_196_102 rfl ?_
                              refine zw_10 (L' := [(2, 69), (0, a0), (0, a1), (0, a2), (0, i33), (0, i32), (0, i33)]) zr_196_104 (Nat.le_of_ble_eq_true rfl) rfl ?_
                              refine zw_7 zr_196_106 rfl ?_
                              refine zw_46i zr_196_107 ef62 rfl rfl rfl ?_
                              refine zw_10 (L' := [(2, 69), (0, a0), (0, a1), (0, a2), (0, i33), (0, f62), (0, i33)]) zr_196_110 (Nat.le_of_ble_eq_true rfl) rfl ?_
                              refine zw_15 (c := 1) (L' := [(2, 69), (0, a0), (0, a1), (0, a2), (0, i33), (0, f62), (0, (i33 + 1))]) zr_196_112 rfl (by decide) (by omega) rfl ?_
                              refine zw_42 zr_196_115 ?_
                              exact zw_less (L := [(2, 69), (0, a0), (0, a1), (0, a2), (0, i33), (0, f62), (0, (i33 + 1))]) ⟨Or.inr rfl, Or.inr rfl, Or.inr rfl, Or.inr rfl, Or.inr rfl, Or.inr rfl, Or.inr rfl, trivial⟩ (ihlp59_37 (i33) (f62) ((i33 + 1)) (p35) (p36) m60 hIm60 hFm60  km60_70_822 km60_70_823 km60_69_3 km60_69_4 fm60_70 (by omega) (by omega) (by omega) (by omega) (by omega) (by omega) (by omega) (by omega) (by omega) (by omega) (cdb_s hv0lp59_37 po0_r61 (by omega) (by omega) (by omega)) (by omega) (by omega) (by omega))
                            · intro h68
                              refine zw_7 zr_196_93 rfl ?_
                              refine zw_46i zr_196_94 ef62 rfl rfl rfl ?_
                              refine zw_4 zr_196_97 rfl ?_
                              refine zw_41_5 zr_196_99 ?_ ?_
                              · intro h69
                                refine zw_15 (c := 1) (L' := [(2, 69), (0, a0), (0, a1), (0, a2), (0, i31), (0, i32), (0, (i33 + 1))]) zr_196_112 rfl (by decide) (by omega) rfl ?_
                                refine zw_42 zr_196_115 ?_
                                exact zw_less (L := [(2, 69), (0, a0), (0, a1), (0, a2), (0, i31), (0, i32), (0, (i33 + 1))]) ⟨Or.inr rfl, Or.inr rfl, Or.inr rfl, Or.inr rfl, Or.inr rfl, Or.inr rfl, Or.inr rfl, trivial⟩ (ihlp59_37 (i31) (i32) ((i33 + 1)) (p35) (p36) m60 hIm60 hFm60  km60_70_822 km60_70_823 km60_69_3 km60_69_4 fm60_70 (by omega) (by omega) (by omega) (by omega) (by omega) (by omega) (by omega) (by omega) (by omega) (by omega) (cdb_s hv0lp59_37 po0_r61 (by omega) (by omega) (by omega)) (by omega) (by omega) (by omega))
                              · intro h71
                                refine zw_4 zr_196_102 rfl ?_
                                refine zw_10 (L' := [(2, 69), (0, a0), (0, a1), (0, a2), (0, i33), (0, i32), (0, i33)]) zr_196_104 (Nat.le_of_ble_eq_true rfl) rfl ?_
                                refine zw_7 zr_196_106 rfl ?_
                                refine zw_46i zr_196_107 ef62 rfl rfl rfl ?_
                                refine zw_10 (L' := [(2, 69), (0, a0), (0, a1), (0, a2), (0, i33), (0, f62), (0, i33)]) zr_196_110 (Nat.le_of_ble_eq_true rfl) rfl ?_
                                refine zw_15 (c := 1) (L' := [(2, 69), (0, a0), (0, a1), (0, a2), (0, i33), (0, f62), (0, (i33 + 1))]) zr_196_112 rfl (by decide) (by omega) rfl ?_
                                refine zw_42 zr_196_115 ?_
                                exact zw_less (L := [(2, 69), (0, a0), (0, a1), (0, a2), (0, i33), (0, f62), (0, (i33 + 1))]) ⟨Or.inr rfl, Or.inr rfl, Or.inr rfl, Or.inr rfl, Or.inr rfl, Or.inr rfl, Or.inr rfl, trivial⟩ (ihlp59_37 (i33) (f62) ((i33 + 1)) (p35) (p36) m60 hIm60 hFm60  km60_70_822 km60_70_823 km60_69_3 km60_69_4 fm60_70 (by omega) (by omega) (by omega) (by omega) (by omega) (by omega) (by omega) (by omega) (by omega) (by omega) (cdb_s hv0lp59_37 po0_r61 (by omega) (by omega) (by omega)) (by omega) (by omega) (by omega))
                  exact lp59_37 _ ((-1)) (0) (0) (g2) (g3) m0 hI0 hF0  hg0 hg1 hg2 hg3 hG70 (by omega) (by omega) (by omega) (by omega) (by omega) (by omega) (by omega) (by omega) (by omega) (by omega) (cdb_0) (by omega) (by omega) (Nat.lt_succ_self _)
                · intro h74
                  refine zw_7 zr_196_44 rfl ?_
                  refine zw_3 zr_196_45 rfl ?_
                  refine zw_C zr_196_46 (Or.inl rfl) zm_195 rfl rfl ⟨Nat.le_of_ble_eq_true rfl, Nat.le_of_ble_eq_true rfl, Nat.le_of_ble_eq_true rfl, rfl, by decide⟩ (by omega) (th_195 (d := d - 1) (by omega) hI0 (a0 := a0) (g0 := g0) (g1 := g1) (g2 := g2) (g3 := g3)  (F70 := F70) (F76 := m0 76) (F77 := m0 77) (F78 := m0 78) hg0 hg1 hg2 hg3 hG70 rfl rfl rfl (by omega) (hp0)) ?_
                  rintro _ m76 ⟨r77, rfl, hr77a, hr77b, hIm76, gm76, po0_r77⟩
                  have hFm76 : zFr W_196 m0 m76 := hF0.trans gm76 rfl
                  have km76_70_822 : m76 70 822 = g0 := (gm76 70 822 rfl).trans hg0
                  have km76_70_823 : m76 70 823 = g1 := (gm76 70 823 rfl).trans hg1
                  have fm76_70 : m76 70 = F70 := (funext fun k => gm76 70 k rfl).trans hG70
                  obtain ⟨f78, ef78⟩ : ∃ v, m76 69 3 = v := ⟨_, rfl⟩
                  have bf78 := hIm76.fl (c := 69) (k := 3) rfl
                  rw [ef78] at bf78
                  rw [ef78] at po0_r77
                  obtain ⟨f79, ef79⟩ : ∃ v, m76 69 4 = v := ⟨_, rfl⟩
                  have bf79 := hIm76.fl (c := 69) (k := 4) rfl
                  rw [ef79] at bf79
                  rw [ef79] at po0_r77
                  show zW E (d) 196 49 [(2, 69), (0, a0), (0, a1), (0, a2), (9, 0), (9, 0), (9, 0)] [(0, r77)] m76 Q
                  refine zw_R zr_196_49 (by decide) zm_196 (v := (0, r77)) rfl ?_
                  rw [← hQ]; exact ⟨_, rfl, by omega, by omega, hIm76, hFm76, by first | exact Or.inl ⟨rfl, by omega⟩ | exact Or.inr ⟨by omega, _, _, cdb_P zz (by omega), Or.inl (by omega)⟩ | (obtain ⟨x, y, z, w⟩ := po0_r77; have e : a1 = 2 := (by omega); exact Or.inr ⟨by omega, x, y, (by rw [e]; exact bBe_k z), Or.inr (by rcases w with w | w; exact Or.inl (by omega); exact Or.inr ⟨w.2.1, by rw [ef78, ef79]; exact w.2.2⟩)⟩), by first | exact Or.inr ⟨ef78, ef79⟩ | exact Or.inr ⟨by rw [ef78]; omega, by rw [ef79]; omega⟩ | (obtain ⟨x, y, z, w⟩ := po0_r77; rcases w with w | w; exact Or.inr ⟨ef78.trans w.2.1, ef79.trans w.2.2⟩; exact Or.inl (by omega))⟩
              · intro h82
                refine zw_3 zr_196_24 rfl ?_
                refine zw_36 zr_196_25 ?_
                refine zw_push zr_196_26 ?_
                refine zw_push zr_196_27 ?_
                refine zw_C zr_196_30 (Or.inr rfl) zm_140 rfl rfl ⟨Nat.le_of_ble_eq_true rfl, Nat.le_of_ble_eq_true rfl, Nat.le_of_ble_eq_true rfl, rfl, by decide⟩ (by omega) (P := (fun v m' => zW E (d) 196 33 [(2, 69), (0, a0), (0, a1), (0, a2), (9, 0), (9, 0), (9, 0)] (if v.1 = 9 then [] else v :: []) m' Q)) ?_ (fun _ _ h => h)
                generalize hQ1 : (fun v m' => zW E (d) 196 33 [(2, 69), (0, a0), (0, a1), (0, a2), (9, 0), (9, 0), (9, 0)] (if v.1 = 9 then [] else v :: []) m' Q) = Q1
                show zW E (d - 1) 140 0 [(1, a2), (9, 0), (1, 1), (9, 0), (1, 9), (9, 0)] [] m0 Q1
                refine zw_5 zr_140_0 rfl ?_
                refine zw_5 zr_140_1 rfl ?_
                refine zw_39_0 zr_140_2 zr_140_3 ?_ ?_
                · intro h83
                  refine zw_push zr_140_17 ?_
                  refine zw_R zr_140_18 (by decide) zm_140 (v := (0, 0)) (zRetB (by omega)) ?_
                  rw [← hQ1]
                  show zW E (d) 196 33 [(2, 69), (0, a0), (0, a1), (0, a2), (9, 0), (9, 0), (9, 0)] [(0, 0)] m0 Q
                  refine zw_40_4 zr_196_33 ?_ ?_
                  · intro h84; omega
                  · intro h85
                    refine zw_push zr_196_36 ?_
                    refine zw_R zr_196_38 (by decide) zm_196 (v := (0, (-2))) rfl ?_
                    rw [← hQ]; exact ⟨_, rfl, by omega, by omega, hI0, hF0, by first | exact Or.inl ⟨rfl, by omega⟩ | exact Or.inr ⟨by omega, _, _, cdb_P zz (by omega), Or.inl (by omega)⟩ | (obtain ⟨x, y, z, w⟩ := zz; have e : a1 = 2 := (by omega); exact Or.inr ⟨by omega, x, y, (by rw [e]; exact bBe_k z), Or.inr (by rcases w with w | w; exact Or.inl (by omega); exact Or.inr ⟨w.2.1, by rw [hg2, hg3]; exact w.2.2⟩)⟩), by first | exact Or.inr ⟨hg2, hg3⟩ | exact Or.inr ⟨by rw [hg2]; omega, by rw [hg3]; omega⟩ | (obtain ⟨x, y, z, w⟩ := zz; rcases w with w | w; exact Or.inr ⟨hg2.trans w.2.1, hg3.trans w.2.2⟩; exact Or.inl (by omega))⟩
                · intro h88
                  refine zw_5 zr_140_6 rfl ?_
                  refine zw_6 zr_140_7 rfl ?_
                  refine zw_39_2 zr_140_9 zr_140_10 ?_ ?_
                  · intro h89
                    refine zw_push zr_140_17 ?_
                    refine zw_R zr_140_18 (by decide) zm_140 (v := (0, 0)) (zRetB (by omega)) ?_
                    rw [← hQ1]
                    show zW E (d) 196 33 [(2, 69), (0, a0), (0, a1), (0, a2), (9, 0), (9, 0), (9, 0)] [(0, 0)] m0 Q
                    refine zw_40_4 zr_196_33 ?_ ?_
                    · intro h90; omega
                    · intro h91
                      refine zw_push zr_196_36 ?_
                      refine zw_R zr_196_38 (by decide) zm_196 (v := (0, (-2))) rfl ?_
                      rw [← hQ]; exact ⟨_, rfl, by omega, by omega, hI0, hF0, by first | exact Or.inl ⟨rfl, by omega⟩ | exact Or.inr ⟨by omega, _, _, cdb_P zz (by omega), Or.inl (by omega)⟩ | (obtain ⟨x, y, z, w⟩ := zz; have e : a1 = 2 := (by omega); exact Or.inr ⟨by omega, x, y, (by rw [e]; exact bBe_k z), Or.inr (by rcases w with w | w; exact Or.inl (by omega); exact Or.inr ⟨w.2.1, by rw [hg2, hg3]; exact w.2.2⟩)⟩), by first | exact Or.inr ⟨hg2, hg3⟩ | exact Or.inr ⟨by rw [hg2]; omega, by rw [hg3]; omega⟩ | (obtain ⟨x, y, z, w⟩ := zz; rcases w with w | w; exact Or.inr ⟨hg2.trans w.2.1, hg3.trans w.2.2⟩; exact Or.inl (by omega))⟩
                  · intro h94
                    refine zw_push zr_140_13 ?_
                    refine zw_42 zr_140_14 ?_
                    refine zw_R zr_140_18 (by decide) zm_140 (v := (0, 1)) (zRetB (by omega)) ?_
                    rw [← hQ1]
                    show zW E (d) 196 33 [(2, 69), (0, a0), (0, a1), (0, a2), (9, 0), (9, 0), (9, 0)] [(0, 1)] m0 Q
                    refine zw_40_4 zr_196_33 ?_ ?_
                    · intro h95
                      refine zw_3 zr_196_39 rfl ?_
                      refine zw_push zr_196_40 ?_
                      refine zw_41_4 zr_196_41 ?_ ?_
                      · intro h96
                        refine zw_push zr_196_50 ?_
                        refine zw_10 (L' := [(2, 69), (0, a0), (0, a1), (0, a2), (0, (-1)), (9, 0), (9, 0)]) zr_196_51 (Nat.le_of_ble_eq_true rfl) rfl ?_
                        refine zw_push zr_196_53 ?_
                        refine zw_10 (L' := [(2, 69), (0, a0), (0, a1), (0, a2), (0, (-1)), (0, 0), (9, 0)]) zr_196_54 (Nat.le_of_ble_eq_true rfl) rfl ?_
                        refine zw_push zr_196_56 ?_
                        refine zw_10 (L' := [(2, 69), (0, a0), (0, a1), (0, a2), (0, (-1)), (0, 0), (0, 0)]) zr_196_57 (Nat.le_of_ble_eq_true rfl) rfl ?_
                        have lp59_103 : ∀ (nlp59_103 : Nat) (i97 i98 i99 p101 p102 : Int) (m100 : zM), zInv m100 → zFr W_196 m0 m100 → m100 70 822 = g0 → m100 70 823 = g1 → m100 69 3 = p101 → m100 69 4 = p102 → m100 70 = F70 → (-1) ≤ i97 → i97 ≤ 9 → (-2147483648) ≤ i98 → i98 ≤ 2147483647 → 0 ≤ i99 → i99 ≤ 10 → (-9223372036854775808) ≤ p101 → p101 ≤ 9223372036854775807 → (-9223372036854775808) ≤ p102 → p102 ≤ 9223372036854775807 → (zBe (cdb a1 a2 g0.toNat (mHm (fun i => F70 (90 + 6 * i)) (fun i => F70 (91 + 6 * i)) (fun i => F70 (92 + 6 * i)) g1) (nHm (cht F70 a0) (fun i => F70 (91 + 6 * i)) (fun i => F70 (92 + 6 * i)) (fun i => F70 (93 + 6 * i)) (fun i => F70 (90 + 6 * i)) (fun i => F70 (94 + 6 * i)) (F70 (450 + 52 * a0).toNat) g1) i99) i97 i98 1) → (-1 ≤ i97 ∧ i99 ≤ g0) → (p101 = g2 ∧ p102 = g3) → (10 - i99).toNat < nlp59_103 → zW E (d) 196 59 [(2, 69), (0, a0), (0, a1), (0, a2), (0, i97), (0, i98), (0, i99)] [] m100 Q := by
                          intro nlp59_103
                          induction nlp59_103 with
                          | zero =>
                            intros
                            exact absurd (by assumption : _ < 0) (Nat.not_lt_zero _)
                          | succ nlp59_103 ihlp59_103 =>
                            intro i97 i98 i99 p101 p102 m100 hIm100 hFm100 km100_70_822 km100_70_823 km100_69_3 km100_69_4 fm100_70 li97 ui97 li98 ui98 li99 ui99 lp101 up101 lp102 up102 hv0lp59_103 hv1lp59_103 hv2lp59_103 hmlp59_103
                            refine zw_4 zr_196_59 rfl ?_
                            refine zw_7 zr_196_61 rfl ?_
                            refine zw_C zr_196_62 (Or.inl rfl) zm_141 rfl rfl ⟨Nat.le_of_ble_eq_true rfl, Nat.le_of_ble_eq_true rfl, Nat.le_of_ble_eq_true rfl, rfl, by decide⟩ (by omega) (P := (fun v m' => zW E (d) 196 65 [(2, 69), (0, a0), (0, a1), (0, a2), (0, i97), (0, i98), (0, i99)] (if v.1 = 9 then [(0, i99)] else v :: [(0, i99)]) m' Q)) ?_ (fun _ _ h => h)
                            generalize hQ1 : (fun v m' => zW E (d) 196 65 [(2, 69), (0, a0), (0, a1), (0, a2), (0, i97), (0, i98), (0, i99)] (if v.1 = 9 then [(0, i99)] else v :: [(0, i99)]) m' Q) = Q1
                            show zW E (d - 1) 141 0 [(2, 69)] [] m100 Q1
                            refine zw_7 zr_141_0 rfl ?_
                            refine zw_46r (s := 70) zr_141_1 rfl rfl rfl rfl ?_
                            refine zw_push zr_141_4 ?_
                            refine zw_48k (c := 70) (len := 826) zr_141_7 rfl rfl (by omega) (by omega) (show (822 : Int).toNat = 822 by omega) km100_70_822 ?_
                            refine zw_R zr_141_8 (by decide) zm_141 (v := (0, g0)) rfl ?_
                            rw [← hQ1]
                            show zW E (d) 196 65 [(2, 69), (0, a0), (0, a1), (0, a2), (0, i97), (0, i98), (0, i99)] [(0, g0), (0, i99)] m100 Q
                            refine zw_41_3 zr_196_65 ?_ ?_
                            · intro h105
                              refine zw_4 zr_196_118 rfl ?_
                              refine zw_R zr_196_120 (by decide) zm_196 (v := (0, i97)) rfl ?_
                              rw [← hQ]; exact ⟨_, rfl, by omega, by omega, hIm100, hFm100, by first | exact Or.inl ⟨rfl, by omega⟩ | exact Or.inr ⟨by omega, _, _, cdb_P hv0lp59_103 (by omega), Or.inl (by omega)⟩ | (obtain ⟨x, y, z, w⟩ := zz; have e : a1 = 2 := (by omega); exact Or.inr ⟨by omega, x, y, (by rw [e]; exact bBe_k z), Or.inr (by rcases w with w | w; exact Or.inl (by omega); exact Or.inr ⟨w.2.1, by rw [km100_69_3, km100_69_4]; exact w.2.2⟩)⟩), by first | exact Or.inr ⟨km100_69_3, km100_69_4⟩ | exact Or.inr ⟨by rw [km100_69_3]; omega, by rw [km100_69_4]; omega⟩ | (obtain ⟨x, y, z, w⟩ := zz; rcases w with w | w; exact Or.inr ⟨km100_69_3.trans w.2.1, km100_69_4.trans w.2.2⟩; exact Or.inl (by omega))⟩
                            · intro h108
                              refine zw_7 zr_196_68 rfl ?_
                              refine zw_3 zr_196_69 rfl ?_
                              refine zw_4 zr_196_70 rfl ?_
                              refine zw_3 zr_196_72 rfl ?_
                              refine zw_40_4 zr_196_73 ?_ ?_
                              · intro h109
                                refine zw_3 zr_196_80 rfl ?_
                                refine zw_C zr_196_81 (Or.inl rfl) zm_194 rfl rfl ⟨Nat.le_of_ble_eq_true rfl, Nat.le_of_ble_eq_true rfl, Nat.le_of_ble_eq_true rfl, rfl, by decide⟩ (by omega) (th_194 (d := d - 1) (by omega) hIm100 (a0 := a0) (a1 := i99) (a2 := a2) (g0 := g1)  (F70 := F70) (F82 := m100 82) km100_70_823 fm100_70 rfl (by omega) (by omega) (by omega) (hp0)) ?_
                                rintro _ m111 ⟨r112, rfl, hr112a, hr112b, hIm111, gm111, po0_r112⟩
                                have hFm111 : zFr W_196 m0 m111 := hFm100.trans gm111 rfl
                                have km111_70_822 : m111 70 822 = g0 := (gm111 70 822 rfl).trans km100_70_822
                                have km111_70_823 : m111 70 823 = g1 := (gm111 70 823 rfl).trans km100_70_823
                                have km111_69_3 : m111 69 3 = p101 := (gm111 69 3 rfl).trans km100_69_3
                                have km111_69_4 : m111 69 4 = p102 := (gm111 69 4 rfl).trans km100_69_4
                                have fm111_70 : m111 70 = F70 := (funext fun k => gm111 70 k rfl).trans fm100_70
                                obtain ⟨f113, ef113⟩ : ∃ v, m111 69 24 = v := ⟨_, rfl⟩
                                have bf113 := hIm111.fi (c := 69) (k := 24) rfl
                                rw [ef113] at bf113
                                rw [ef113] at po0_r112
                                show zW E (d) 196 84 [(2, 69), (0, a0), (0, a1), (0, a2), (0, i97), (0, i98), (0, i99)] [(0, r112)] m111 Q
                                refine zw_40_1 zr_196_84 ?_ ?_
                                · intro h114
                                  refine zw_15 (c := 1) (L' := [(2, 69), (0, a0), (0, a1), (0, a2), (0, i97), (0, i98), (0, (i99 + 1))]) zr_196_112 rfl (by decide) (by omega) rfl ?_
                                  refine zw_42 zr_196_115 ?_
                                  exact zw_less (L := [(2, 69), (0, a0), (0, a1), (0, a2), (0, i97), (0, i98), (0, (i99 + 1))]) ⟨Or.inr rfl, Or.inr rfl, Or.inr rfl, Or.inr rfl, Or.inr rfl, Or.inr rfl, Or.inr rfl, trivial⟩ (ihlp59_103 (i97) (i98) ((i99 + 1)) (p101) (p102) m111 hIm111 hFm111  km111_70_822 km111_70_823 km111_69_3 km111_69_4 fm111_70 (by omega) (by omega) (by omega) (by omega) (by omega) (by omega) (by omega) (by omega) (by omega) (by omega) (cdb_s hv0lp59_103 po0_r112 (by omega) (by omega) (by omega)) (by omega) (by omega) (by omega))
                                · intro h116
                                  refine zw_4 zr_196_87 rfl ?_
                                  refine zw_push zr_196_89 ?_
                                  refine zw_41_1 zr_196_90 ?_ ?_
                                  · intro h117
                                    refine zw_4 zr_196_102 rfl ?_
                                    refine zw_10 (L' := [(2, 69), (0, a0), (0, a1), (0, a2), (0, i99), (0, i98), (0, i99)]) zr_196_104 (Nat.le_of_ble_eq_true rfl) rfl ?_
                                    refine zw_7 zr_196_106 rfl ?_
                                    refine zw_46i zr_196_107 ef113 rfl rfl rfl ?_
                                    refine zw_10 (L' := [(2, 69), (0, a0), (0, a1), (0, a2), (0, i99), (0, f113), (0, i99)]) zr_196_110 (Nat.le_of_ble_eq_true rfl) rfl ?_
                                    refine zw_15 (c := 1) (L' := [(2, 69), (0, a0), (0, a1), (0, a2), (0, i99), (0, f113), (0, (i99 + 1))]) zr_196_112 rfl (by decide) (by omega) rfl ?_
                                    refine zw_42 zr_196_115 ?_
                                    exact zw_less (L := [(2, 69), (0, a0), (0, a1), (0, a2), (0, i99), (0, f113), (0, (i99 + 1))]) ⟨Or.inr rfl, Or.inr rfl, Or.inr rfl, Or.inr rfl, Or.inr rfl, Or.inr rfl, Or.inr rfl, trivial⟩ (ihlp59_103 (i99) (f113) ((i99 + 1)) (p101) (p102) m111 hIm111 hFm111  km111_70_822 km111_70_823 km111_69_3 km111_69_4 fm111_70 (by omega) (by omega) (by omega) (by omega) (by omega) (by omega) (by omega) (by omega) (by omega) (by omega) (cdb_s hv0lp59_103 po0_r112 (by omega) (by omega) (by omega)) (by omega) (by omega) (by omega))
                                  · intro h119
                                    refine zw_7 zr_196_93 rfl ?_
                                    refine zw_46i zr_196_94 ef113 rfl rfl rfl ?_
                                    refine zw_4 zr_196_97 rfl ?_
                                    refine zw_41_5 zr_196_99 ?_ ?_
                                    · intro h120
                                      refine zw_15 (c := 1) (L' := [(2, 69), (0, a0), (0, a1), (0, a2), (0, i97), (0, i98), (0, (i99 + 1))]) zr_196_112 rfl (by decide) (by omega) rfl ?_
                                      refine zw_42 zr_196_115 ?_
                                      exact zw_less (L := [(2, 69), (0, a0), (0, a1), (0, a2), (0, i97), (0, i98), (0, (i99 + 1))]) ⟨Or.inr rfl, Or.inr rfl, Or.inr rfl, Or.inr rfl, Or.inr rfl, Or.inr rfl, Or.inr rfl, trivial⟩ (ihlp59_103 (i97) (i98) ((i99 + 1)) (p101) (p102) m111 hIm111 hFm111  km111_70_822 km111_70_823 km111_69_3 km111_69_4 fm111_70 (by omega) (by omega) (by omega) (by omega) (by omega) (by omega) (by omega) (by omega) (by omega) (by omega) (cdb_s hv0lp59_103 po0_r112 (by omega) (by omega) (by omega)) (by omega) (by omega) (by omega))
                                    · intro h122
                                      refine zw_4 zr_196_102 rfl ?_
                                      refine zw_10 (L' := [(2, 69), (0, a0), (0, a1), (0, a2), (0, i99), (0, i98), (0, i99)]) zr_196_104 (Nat.le_of_ble_eq_true rfl) rfl ?_
                                      refine zw_7 zr_196_106 rfl ?_
                                      refine zw_46i zr_196_107 ef113 rfl rfl rfl ?_
                                      refine zw_10 (L' := [(2, 69), (0, a0), (0, a1), (0, a2), (0, i99), (0, f113), (0, i99)]) zr_196_110 (Nat.le_of_ble_eq_true rfl) rfl ?_
                                      refine zw_15 (c := 1) (L' := [(2, 69), (0, a0), (0, a1), (0, a2), (0, i99), (0, f113), (0, (i99 + 1))]) zr_196_112 rfl (by decide) (by omega) rfl ?_
                                      refine zw_42 zr_196_115 ?_
                                      exact zw_less (L := [(2, 69), (0, a0), (0, a1), (0, a2), (0, i99), (0, f113), (0, (i99 + 1))]) ⟨Or.inr rfl, Or.inr rfl, Or.inr rfl, Or.inr rfl, Or.inr rfl, Or.inr rfl, Or.inr rfl, trivial⟩ (ihlp59_103 (i99) (f113) ((i99 + 1)) (p101) (p102) m111 hIm111 hFm111  km111_70_822 km111_70_823 km111_69_3 km111_69_4 fm111_70 (by omega) (by omega) (by omega) (by omega) (by omega) (by omega) (by omega) (by omega) (by omega) (by omega) (cdb_s hv0lp59_103 po0_r112 (by omega) (by omega) (by omega)) (by omega) (by omega) (by omega))
                              · intro h124; omega
                        exact lp59_103 _ ((-1)) (0) (0) (g2) (g3) m0 hI0 hF0  hg0 hg1 hg2 hg3 hG70 (by omega) (by omega) (by omega) (by omega) (by omega) (by omega) (by omega) (by omega) (by omega) (by omega) (cdb_0) (by omega) (by omega) (Nat.lt_succ_self _)
                      · intro h126; omega
                    · intro h127; omega

abbrev W_4_65 : List (Nat × Nat) := [(65, 1000)]
set_option maxHeartbeats 8000000 in
theorem th_4_65 {E : zE} {d : Nat} {m0 : zM} {a0 : Int} {F65 : Nat → Int} (hd : 1 ≤ d) (hI0 : zInv m0) (hG65 : m0 65 = F65) (ha0 : 0 ≤ a0 ∧ a0 ≤ 0) : zC E d 4 [(2, 65), (0, a0)] m0 (fun v m' => v = (9, 0) ∧ zInv m' ∧ zFr W_4_65 m0 m' ∧ (zFil (m' 65) 100 a0)) := by
  have hF0 : zFr W_4_65 m0 m0 := zFr.rfl
  generalize hQ : (fun (v : zV) (m' : zM) => v = (9, 0) ∧ zInv m' ∧ zFr W_4_65 m0 m' ∧ (zFil (m' 65) 100 a0)) = Q
  show zW E d 4 0 [(2, 65), (0, a0), (9, 0), (9, 0)] [] m0 Q
  refine zw_push zr_4_0 ?_
  refine zw_9 (L' := [(2, 65), (0, a0), (0, 0), (9, 0)]) zr_4_1 (Nat.le_of_ble_eq_true rfl) rfl ?_
  refine zw_7 zr_4_2 rfl ?_
  refine zw_101 (c := 65) (len := 100) zr_4_3 rfl rfl (by decide) ?_
  refine zw_9 (L' := [(2, 65), (0, a0), (0, 0), (0, 100)]) zr_4_4 (Nat.le_of_ble_eq_true rfl) rfl ?_
  have lp5_4 : ∀ (nlp5_4 : Nat) (i1 : Int) (f3 : Nat → Int) (m2 : zM), zInv m2 → zFr W_4_65 m0 m2 → m2 65 = f3 → 0 ≤ i1 → i1 ≤ 100 → (zFil f3 i1 a0) → (100 - i1).toNat < nlp5_4 → zW E (d) 4 5 [(2, 65), (0, a0), (0, i1), (0, 100)] [] m2 Q := by
    intro nlp5_4
    induction nlp5_4 with
    | zero =>
      intros
      exact absurd (by assumption : _ < 0) (Nat.not_lt_zero _)
    | succ nlp5_4 ihlp5_4 =>
      intro i1 f3 m2 hIm2 hFm2 fm2_65 li1 ui1 hv0lp5_4 hmlp5_4
      refine zw_3 zr_4_5 rfl ?_
      refine zw_3 zr_4_6 rfl ?_
      refine zw_41_3 zr_4_7 ?_ ?_
      · intro h6
        refine zw_R zr_4_20 (by decide) zm_4 (v := (9, 0)) rfl ?_
        rw [← hQ]; exact ⟨rfl, hIm2, hFm2, by rw [fm2_65]; exact zFil_le hv0lp5_4 (by omega)⟩
      · intro h8
        refine zw_7 zr_4_10 rfl ?_
        refine zw_3 zr_4_11 rfl ?_
        refine zw_3 zr_4_12 rfl ?_
        refine zw_49 (c := 65) (len := 100) zr_4_13 rfl rfl (by omega) (by omega) ?_
        intro m9 em9
        have hIm9 : zInv m9 := by rw [em9]; exact hIm2.any (by omega) rfl (by decide) (by decide)
        have hFm9 : zFr W_4_65 m0 m9 := by rw [em9]; exact hFm2.any rfl
        have fm9_65 : m9 65 = zPt f3 ((i1).toNat) a0 := by rw [em9]; exact (zUp_ff (m := m2)).trans (congrArg (fun q => zPt q ((i1).toNat) a0) fm2_65)
        clear em9
        refine zw_15 (c := 1) (L' := [(2, 65), (0, a0), (0, (i1 + 1)), (0, 100)]) zr_4_14 rfl (by decide) (by omega) rfl ?_
        refine zw_42 zr_4_17 ?_
        exact zw_less (L := [(2, 65), (0, a0), (0, (i1 + 1)), (0, 100)]) ⟨Or.inr rfl, Or.inr rfl, Or.inr rfl, Or.inr rfl, trivial⟩ (ihlp5_4 ((i1 + 1)) (zPt f3 ((i1).toNat) a0) m9 hIm9 hFm9   fm9_65 (by omega) (by omega) (zFil_put hv0lp5_4 (by omega)) (by omega))
  exact lp5_4 _ (0) (F65) m0 hI0 hF0  hG65 (by omega) (by omega) (zFil_0) (Nat.lt_succ_self _)

abbrev W_90 : List (Nat × Nat) := [(65, 1000)]
set_option maxHeartbeats 8000000 in
theorem th_90 {E : zE} {d : Nat} {m0 : zM} {g0 : Int} {g1 : Int} {F65 : Nat → Int} {F6 : Nat → Int} {F7 : Nat → Int} {F8 : Nat → Int} (hd : 2 ≤ d) (hI0 : zInv m0) (hg0 : m0 1 1 = g0) (hg1 : m0 1 2 = g1) (hG65 : m0 65 = F65) (hG6 : m0 6 = F6) (hG7 : m0 7 = F7) (hG8 : m0 8 = F8) : zC E d 90 [(2, 63)] m0 (fun v m' => v = (9, 0) ∧ zInv m' ∧ zFr W_90 m0 m' ∧ (zWn (m' 65) F6 F7 F8 g1 g0)) := by
  have hF0 : zFr W_90 m0 m0 := zFr.rfl
  have bg0 := ib_1_1 hI0
  rw [hg0] at bg0
  have bg1 := ib_1_2 hI0
  rw [hg1] at bg1
  generalize hQ : (fun (v : zV) (m' : zM) => v = (9, 0) ∧ zInv m' ∧ zFr W_90 m0 m' ∧ (zWn (m' 65) F6 F7 F8 g1 g0)) = Q
  show zW E d 90 0 [(2, 63), (9, 0), (9, 0), (9, 0)] [] m0 Q
  refine zw_7 zr_90_0 rfl ?_
  refine zw_46r (s := 65) zr_90_1 rfl rfl rfl rfl ?_
  refine zw_push zr_90_4 ?_
  refine zw_C zr_90_5 (Or.inr rfl) zm_4 rfl rfl ⟨Nat.le_of_ble_eq_true rfl, Nat.le_of_ble_eq_true rfl, Nat.le_of_ble_eq_true rfl, rfl, by decide⟩ (by omega) (th_4_65 (d := d - 1) (by omega) hI0 (a0 := 0)   (F65 := F65)  hG65 (by omega) ) ?_
  rintro _ m1 ⟨rfl, hIm1, gm1, po0_m1⟩
  have hFm1 : zFr W_90 m0 m1 := hF0.trans gm1 rfl
  have km1_1_1 : m1 1 1 = g0 := (gm1 1 1 rfl).trans hg0
  have km1_1_2 : m1 1 2 = g1 := (gm1 1 2 rfl).trans hg1
  obtain ⟨f2, fm1_65⟩ : ∃ f, m1 65 = f := ⟨_, rfl⟩
  try rw [fm1_65] at po0_m1
  have fm1_6 : m1 6 = F6 := (funext fun k => gm1 6 k rfl).trans hG6
  have fm1_7 : m1 7 = F7 := (funext fun k => gm1 7 k rfl).trans hG7
  have fm1_8 : m1 8 = F8 := (funext fun k => gm1 8 k rfl).trans hG8
  show zW E (d) 90 8 [(2, 63), (9, 0), (9, 0), (9, 0)] [] m1 Q
  refine zw_push zr_90_8 ?_
  refine zw_9 (L' := [(2, 63), (0, 0), (9, 0), (9, 0)]) zr_90_9 (Nat.le_of_ble_eq_true rfl) rfl ?_
  have lp10_6 : ∀ (nlp10_6 : Nat) (i3 : Int) (f5 : Nat → Int) (m4 : zM), zInv m4 → zFr W_90 m0 m4 → m4 1 1 = g0 → m4 1 2 = g1 → m4 65 = f5 → m4 6 = F6 → m4 7 = F7 → m4 8 = F8 → 0 ≤ i3 → i3 ≤ 60 → (zWn f5 F6 F7 F8 g1 i3) → (i3 ≤ g0) → (60 - i3).toNat < nlp10_6 → zW E (d) 90 10 [(2, 63), (0, i3), (9, 0), (9, 0)] [] m4 Q := by
    intro nlp10_6
    induction nlp10_6 with
    | zero =>
      intros
      exact absurd (by assumption : _ < 0) (Nat.not_lt_zero _)
    | succ nlp10_6 ihlp10_6 =>
      intro i3 f5 m4 hIm4 hFm4 km4_1_1 km4_1_2 fm4_65 fm4_6 fm4_7 fm4_8 li3 ui3 hv0lp10_6 hv1lp10_6 hmlp10_6
      refine zw_3 zr_90_10 rfl ?_
      refine zw_7 zr_90_11 rfl ?_
      refine zw_46r (s := 1) zr_90_12 rfl rfl rfl rfl ?_
      refine zw_46i zr_90_15 km4_1_1 rfl rfl rfl ?_
      refine zw_41_3 zr_90_18 ?_ ?_
      · intro h8
        refine zw_R zr_90_108 (by decide) zm_90 (v := (9, 0)) rfl ?_
        rw [← hQ]; exact ⟨rfl, hIm4, hFm4, by rw [fm4_65, show g0 = i3 by omega]; exact hv0lp10_6⟩
      · intro h10
        refine zw_7 zr_90_21 rfl ?_
        refine zw_46r (s := 1) zr_90_22 rfl rfl rfl rfl ?_
        refine zw_46r (s := 6) zr_90_25 rfl rfl rfl rfl ?_
        refine zw_3 zr_90_28 rfl ?_
        refine zw_48 (c := 6) (len := 60) zr_90_29 rfl rfl (by omega) (by omega) ?_
        intro x11 ex11
        have bx11 := ib_6 hIm4 (k := (i3).toNat) (by omega)
        rw [← ex11] at bx11
        have qx11 : x11 = F6 (i3).toNat := by rw [← fm4_6]; exact ex11
        clear ex11
        refine zw_9 (L' := [(2, 63), (0, i3), (0, x11), (9, 0)]) zr_90_30 (Nat.le_of_ble_eq_true rfl) rfl ?_
        refine zw_7 zr_90_31 rfl ?_
        refine zw_46r (s := 1) zr_90_32 rfl rfl rfl rfl ?_
        refine zw_46r (s := 7) zr_90_35 rfl rfl rfl rfl ?_
        refine zw_3 zr_90_38 rfl ?_
        refine zw_48 (c := 7) (len := 60) zr_90_39 rfl rfl (by omega) (by omega) ?_
        intro x12 ex12
        have bx12 := ib_7 hIm4 (k := (i3).toNat) (by omega)
        rw [← ex12] at bx12
        have qx12 : x12 = F7 (i3).toNat := by rw [← fm4_7]; exact ex12
        clear ex12
        refine zw_9 (L' := [(2, 63), (0, i3), (0, x11), (0, x12)]) zr_90_40 (Nat.le_of_ble_eq_true rfl) rfl ?_
        refine zw_7 zr_90_41 rfl ?_
        refine zw_46r (s := 1) zr_90_42 rfl rfl rfl rfl ?_
        refine zw_3 zr_90_45 rfl ?_
        refine zw_C zr_90_46 (Or.inl rfl) zm_18 rfl rfl ⟨Nat.le_of_ble_eq_true rfl, Nat.le_of_ble_eq_true rfl, Nat.le_of_ble_eq_true rfl, rfl, by decide⟩ (by omega) (P := (fun v m' => zW E (d) 90 49 [(2, 63), (0, i3), (0, x11), (0, x12)] (if v.1 = 9 then [] else v :: []) m' Q)) ?_ (fun _ _ h => h)
        generalize hQ1 : (fun v m' => zW E (d) 90 49 [(2, 63), (0, i3), (0, x11), (0, x12)] (if v.1 = 9 then [] else v :: []) m' Q) = Q1
        show zW E (d - 1) 18 0 [(2, 1), (0, i3)] [] m4 Q1
        refine zw_7 zr_18_0 rfl ?_
        refine zw_46l zr_18_1 km4_1_2 rfl rfl rfl ?_
        refine zw_3 zr_18_4 rfl ?_
        refine zw_34p zr_18_5 (by omega) (by omega) ?_
        intro x13 hx13c hx13a hx13b
        refine zw_push zr_18_6 ?_
        refine zw_30o zr_18_7 (by omega) ?_
        refine zw_push zr_18_8 ?_
        refine zw_39_1 zr_18_9 zr_18_10 ?_ ?_
        · intro h14
          refine zw_push zr_18_17 ?_
          refine zw_R zr_18_18 (by decide) zm_18 (v := (0, 0)) (zRetB (by omega)) ?_
          rw [← hQ1]
          show zW E (d) 90 49 [(2, 63), (0, i3), (0, x11), (0, x12)] [(0, 0)] m4 Q
          refine zw_40_4 zr_90_49 ?_ ?_
          · intro h15; omega
          · intro h16
            refine zw_7 zr_90_52 rfl ?_
            refine zw_46r (s := 1) zr_90_53 rfl rfl rfl rfl ?_
            refine zw_46r (s := 8) zr_90_56 rfl rfl rfl rfl ?_
            refine zw_3 zr_90_59 rfl ?_
            refine zw_48 (c := 8) (len := 60) zr_90_60 rfl rfl (by omega) (by omega) ?_
            intro x17 ex17
            have bx17 := ib_8 hIm4 (k := (i3).toNat) (by omega)
            rw [← ex17] at bx17
            have qx17 : x17 = F8 (i3).toNat := by rw [← fm4_8]; exact ex17
            refine zw_push zr_90_61 ?_
            refine zw_41_1 zr_90_62 ?_ ?_
            · intro h18
              refine zw_15 (c := 1) (L' := [(2, 63), (0, (i3 + 1)), (0, x11), (0, x12)]) zr_90_102 rfl (by decide) (by omega) rfl ?_
              refine zw_42 zr_90_105 ?_
              exact zw_less (L := [(2, 63), (0, (i3 + 1)), (9, 0), (9, 0)]) ⟨Or.inr rfl, Or.inr rfl, Or.inl rfl, Or.inl rfl, trivial⟩ (ihlp10_6 ((i3 + 1)) (f5) m4 hIm4 hFm4  km4_1_1 km4_1_2 fm4_65 fm4_6 fm4_7 fm4_8 (by omega) (by omega) (by first | exact zWn_put hv0lp10_6 (by omega) (by omega) (by omega) (by omega) (by omega) qzz | exact zWn_skip hv0lp10_6 (by omega) (by omega)) (by omega) (by omega))
            · intro h20
              refine zw_7 zr_90_65 rfl ?_
              refine zw_46r (s := 65) zr_90_66 rfl rfl rfl rfl ?_
              refine zw_7 zr_90_69 rfl ?_
              refine zw_46r (s := 1) zr_90_70 rfl rfl rfl rfl ?_
              refine zw_46r (s := 8) zr_90_73 rfl rfl rfl rfl ?_
              refine zw_3 zr_90_76 rfl ?_
              refine zw_48k (c := 8) (len := 60) zr_90_77 rfl rfl (by omega) (by omega) rfl ex17.symm ?_
              refine zw_push zr_90_78 ?_
              refine zw_41_4 zr_90_79 ?_ ?_
              · intro h21
                refine zw_3 zr_90_91 rfl ?_
                refine zw_push zr_90_92 ?_
                refine zw_18 zr_90_94 (by omega) ?_
                refine zw_3 zr_90_95 rfl ?_
                refine zw_16 zr_90_96 (by omega) ?_
                refine zw_45 zr_90_97 ⟨rfl, rfl⟩ ?_
                refine zw_48 (c := 65) (len := 100) zr_90_98 rfl rfl (by omega) (by omega) ?_
                intro x22 ex22
                have bx22 := hIm4.ra (c := 65) (len := 100) (k := (((x12 * 10) + x11)).toNat) rfl (by omega)
                rw [← ex22] at bx22
                have qx22 : x22 = f5 (((x12 * 10) + x11)).toNat := by rw [← fm4_65]; exact ex22
                clear ex22
                have z23 : x22 ≤ i3 := by rw [qx22]; exact zWn_le hv0lp10_6 (by omega) (by omega)
                refine zw_push zr_90_99 ?_
                refine zw_16 zr_90_100 (by omega) ?_
                refine zw_49 (c := 65) (len := 100) zr_90_101 rfl rfl (by omega) (by omega) ?_
                intro m24 em24
                have hIm24 : zInv m24 := by rw [em24]; exact hIm4.any (by omega) rfl (by decide) (by decide)
                have hFm24 : zFr W_90 m0 m24 := by rw [em24]; exact hFm4.any rfl
                have km24_1_1 : m24 1 1 = g0 := by rw [em24, zUp_ne (by omega)]; exact km4_1_1
                have km24_1_2 : m24 1 2 = g1 := by rw [em24, zUp_ne (by omega)]; exact km4_1_2
                have fm24_65 : m24 65 = zPt f5 ((((x12 * 10) + x11)).toNat) ((x22 + 1)) := by rw [em24]; exact (zUp_ff (m := m4)).trans (congrArg (fun q => zPt q ((((x12 * 10) + x11)).toNat) ((x22 + 1))) fm4_65)
                have fm24_6 : m24 6 = F6 := by rw [em24, zUp_fn (by decide)]; exact fm4_6
                have fm24_7 : m24 7 = F7 := by rw [em24, zUp_fn (by decide)]; exact fm4_7
                have fm24_8 : m24 8 = F8 := by rw [em24, zUp_fn (by decide)]; exact fm4_8
                clear em24
                refine zw_15 (c := 1) (L' := [(2, 63), (0, (i3 + 1)), (0, x11), (0, x12)]) zr_90_102 rfl (by decide) (by omega) rfl ?_
                refine zw_42 zr_90_105 ?_
                exact zw_less (L := [(2, 63), (0, (i3 + 1)), (9, 0), (9, 0)]) ⟨Or.inr rfl, Or.inr rfl, Or.inl rfl, Or.inl rfl, trivial⟩ (ihlp10_6 ((i3 + 1)) (zPt f5 ((((x12 * 10) + x11)).toNat) ((x22 + 1))) m24 hIm24 hFm24  km24_1_1 km24_1_2 fm24_65 fm24_6 fm24_7 fm24_8 (by omega) (by omega) (by first | exact zWn_put hv0lp10_6 (by omega) (by omega) (by omega) (by omega) (by omega) qx22 | exact zWn_skip hv0lp10_6 (by omega) (by omega)) (by omega) (by omega))
              · intro h26
                refine zw_3 zr_90_82 rfl ?_
                refine zw_push zr_90_83 ?_
                refine zw_18 zr_90_85 (by omega) ?_
                refine zw_3 zr_90_86 rfl ?_
                refine zw_16 zr_90_87 (by omega) ?_
                refine zw_42 zr_90_88 ?_
                refine zw_45 zr_90_97 ⟨rfl, rfl⟩ ?_
                refine zw_48 (c := 65) (len := 100) zr_90_98 rfl rfl (by omega) (by omega) ?_
                intro x27 ex27
                have bx27 := hIm4.ra (c := 65) (len := 100) (k := (((x11 * 10) + x12)).toNat) rfl (by omega)
                rw [← ex27] at bx27
                have qx27 : x27 = f5 (((x11 * 10) + x12)).toNat := by rw [← fm4_65]; exact ex27
                clear ex27
                have z28 : x27 ≤ i3 := by rw [qx27]; exact zWn_le hv0lp10_6 (by omega) (by omega)
                refine zw_push zr_90_99 ?_
                refine zw_16 zr_90_100 (by omega) ?_
                refine zw_49 (c := 65) (len := 100) zr_90_101 rfl rfl (by omega) (by omega) ?_
                intro m29 em29
                have hIm29 : zInv m29 := by rw [em29]; exact hIm4.any (by omega) rfl (by decide) (by decide)
                have hFm29 : zFr W_90 m0 m29 := by rw [em29]; exact hFm4.any rfl
                have km29_1_1 : m29 1 1 = g0 := by rw [em29, zUp_ne (by omega)]; exact km4_1_1
                have km29_1_2 : m29 1 2 = g1 := by rw [em29, zUp_ne (by omega)]; exact km4_1_2
                have fm29_65 : m29 65 = zPt f5 ((((x11 * 10) + x12)).toNat) ((x27 + 1)) := by rw [em29]; exact (zUp_ff (m := m4)).trans (congrArg (fun q => zPt q ((((x11 * 10) + x12)).toNat) ((x27 + 1))) fm4_65)
                have fm29_6 : m29 6 = F6 := by rw [em29, zUp_fn (by decide)]; exact fm4_6
                have fm29_7 : m29 7 = F7 := by rw [em29, zUp_fn (by decide)]; exact fm4_7
                have fm29_8 : m29 8 = F8 := by rw [em29, zUp_fn (by decide)]; exact fm4_8
                clear em29
                refine zw_15 (c := 1) (L' := [(2, 63), (0, (i3 + 1)), (0, x11), (0, x12)]) zr_90_102 rfl (by decide) (by omega) rfl ?_
                refine zw_42 zr_90_105 ?_
                exact zw_less (L := [(2, 63), (0, (i3 + 1)), (9, 0), (9, 0)]) ⟨Or.inr rfl, Or.inr rfl, Or.inl rfl, Or.inl rfl, trivial⟩ (ihlp10_6 ((i3 + 1)) (zPt f5 ((((x11 * 10) + x12)).toNat) ((x27 + 1))) m29 hIm29 hFm29  km29_1_1 km29_1_2 fm29_65 fm29_6 fm29_7 fm29_8 (by omega) (by omega) (by first | exact zWn_put hv0lp10_6 (by omega) (by omega) (by omega) (by omega) (by omega) qx27 | exact zWn_skip hv0lp10_6 (by omega) (by omega)) (by omega) (by omega))
        · intro h31
          refine zw_push zr_18_13 ?_
          refine zw_42 zr_18_14 ?_
          refine zw_R zr_18_18 (by decide) zm_18 (v := (0, 1)) (zRetB (by omega)) ?_
          rw [← hQ1]
          show zW E (d) 90 49 [(2, 63), (0, i3), (0, x11), (0, x12)] [(0, 1)] m4 Q
          refine zw_40_4 zr_90_49 ?_ ?_
          · intro h32
            refine zw_15 (c := 1) (L' := [(2, 63), (0, (i3 + 1)), (0, x11), (0, x12)]) zr_90_102 rfl (by decide) (by omega) rfl ?_
            refine zw_42 zr_90_105 ?_
            exact zw_less (L := [(2, 63), (0, (i3 + 1)), (9, 0), (9, 0)]) ⟨Or.inr rfl, Or.inr rfl, Or.inl rfl, Or.inl rfl, trivial⟩ (ihlp10_6 ((i3 + 1)) (f5) m4 hIm4 hFm4  km4_1_1 km4_1_2 fm4_65 fm4_6 fm4_7 fm4_8 (by omega) (by omega) (by first | exact zWn_put hv0lp10_6 (by omega) (by omega) (by omega) (by omega) (by omega) qzz | exact zWn_skip hv0lp10_6 (by omega) (by omega)) (by omega) (by omega))
          · intro h34; omega
  exact lp10_6 _ (0) (f2) m1 hIm1 hFm1  km1_1_1 km1_1_2 fm1_65 fm1_6 fm1_7 fm1_8 (by omega) (by omega) (zWn_0 (by assumption)) (by omega) (Nat.lt_succ_self _)

set_option maxHeartbeats 8000000 in
theorem th_92 {E : zE} {d : Nat} {m0 : zM} {a0 : Int} {a1 : Int} {a2 : Int} {F65 : Nat → Int} (hd : 2 ≤ d) (hI0 : zInv m0) (hG65 : m0 65 = F65) (ha0 : 0 ≤ a0 ∧ a0 ≤ 9) (ha1 : 1 ≤ a1 ∧ a1 ≤ 9) (ha2 : 1 ≤ a2 ∧ a2 ≤ 9) : zC E d 92 [(2, 63), (0, a0), (0, a1), (0, a2)] m0 (fun v m' => ∃ r : Int, v = (0, r) ∧ 0 ≤ r ∧ r ≤ 1 ∧ m0 = m' ∧ (r = rgv F65 a0 a1 a2)) := by
  generalize hQ : (fun (v : zV) (m' : zM) => ∃ r : Int, v = (0, r) ∧ 0 ≤ r ∧ r ≤ 1 ∧ m0 = m' ∧ (r = rgv F65 a0 a1 a2)) = Q
  show zW E d 92 0 [(2, 63), (0, a0), (0, a1), (0, a2), (9, 0)] [] m0 Q
  refine zw_7 zr_92_0 rfl ?_
  refine zw_3 zr_92_1 rfl ?_
  refine zw_3 zr_92_2 rfl ?_
  refine zw_C zr_92_3 (Or.inl rfl) zm_91 rfl rfl ⟨Nat.le_of_ble_eq_true rfl, Nat.le_of_ble_eq_true rfl, Nat.le_of_ble_eq_true rfl, rfl, by decide⟩ (by omega) (P := (fun v m' => zW E (d) 92 6 [(2, 63), (0, a0), (0, a1), (0, a2), (9, 0)] (if v.1 = 9 then [] else v :: []) m' Q)) ?_ (fun _ _ h => h)
  generalize hQ1 : (fun v m' => zW E (d) 92 6 [(2, 63), (0, a0), (0, a1), (0, a2), (9, 0)] (if v.1 = 9 then [] else v :: []) m' Q) = Q1
  show zW E (d - 1) 91 0 [(2, 63), (0, a0), (0, a1)] [] m0 Q1
  refine zw_7 zr_91_0 rfl ?_
  refine zw_46r (s := 65) zr_91_1 rfl rfl rfl rfl ?_
  refine zw_3 zr_91_4 rfl ?_
  refine zw_push zr_91_5 ?_
  refine zw_18 zr_91_7 (by omega) ?_
  refine zw_3 zr_91_8 rfl ?_
  refine zw_16 zr_91_9 (by omega) ?_
  refine zw_48 (c := 65) (len := 100) zr_91_10 rfl rfl (by omega) (by omega) ?_
  intro x1 ex1
  have bx1 := hI0.ra (c := 65) (len := 100) (k := (((a0 * 10) + a1)).toNat) rfl (by omega)
  rw [← ex1] at bx1
  have qx1 : x1 = F65 (((a0 * 10) + a1)).toNat := by rw [← hG65]; exact ex1
  clear ex1
  refine zw_R zr_91_11 (by decide) zm_91 (v := (0, x1)) rfl ?_
  rw [← hQ1]
  show zW E (d) 92 6 [(2, 63), (0, a0), (0, a1), (0, a2), (9, 0)] [(0, x1)] m0 Q
  refine zw_40_5 zr_92_6 ?_ ?_
  · intro h2
    refine zw_push zr_92_31 ?_
    refine zw_10 (L' := [(2, 63), (0, a0), (0, a1), (0, a2), (0, 0)]) zr_92_32 (Nat.le_of_ble_eq_true rfl) rfl ?_
    refine zw_4 zr_92_34 rfl ?_
    refine zw_40_1 zr_92_36 ?_ ?_
    · intro h3
      refine zw_push zr_92_43 ?_
      refine zw_R zr_92_44 (by decide) zm_92 (v := (0, 0)) rfl ?_
      rw [← hQ]; exact ⟨_, rfl, by omega, by omega, rfl, by unfold rgv; split <;> omega⟩
    · intro h5; omega
  · intro h6
    refine zw_7 zr_92_9 rfl ?_
    refine zw_3 zr_92_10 rfl ?_
    refine zw_3 zr_92_11 rfl ?_
    refine zw_C zr_92_12 (Or.inl rfl) zm_91 rfl rfl ⟨Nat.le_of_ble_eq_true rfl, Nat.le_of_ble_eq_true rfl, Nat.le_of_ble_eq_true rfl, rfl, by decide⟩ (by omega) (P := (fun v m' => zW E (d) 92 15 [(2, 63), (0, a0), (0, a1), (0, a2), (9, 0)] (if v.1 = 9 then [] else v :: []) m' Q)) ?_ (fun _ _ h => h)
    generalize hQ1 : (fun v m' => zW E (d) 92 15 [(2, 63), (0, a0), (0, a1), (0, a2), (9, 0)] (if v.1 = 9 then [] else v :: []) m' Q) = Q1
    show zW E (d - 1) 91 0 [(2, 63), (0, a1), (0, a2)] [] m0 Q1
    refine zw_7 zr_91_0 rfl ?_
    refine zw_46r (s := 65) zr_91_1 rfl rfl rfl rfl ?_
    refine zw_3 zr_91_4 rfl ?_
    refine zw_push zr_91_5 ?_
    refine zw_18 zr_91_7 (by omega) ?_
    refine zw_3 zr_91_8 rfl ?_
    refine zw_16 zr_91_9 (by omega) ?_
    refine zw_48 (c := 65) (len := 100) zr_91_10 rfl rfl (by omega) (by omega) ?_
    intro x7 ex7
    have bx7 := hI0.ra (c := 65) (len := 100) (k := (((a1 * 10) + a2)).toNat) rfl (by omega)
    rw [← ex7] at bx7
    have qx7 : x7 = F65 (((a1 * 10) + a2)).toNat := by rw [← hG65]; exact ex7
    clear ex7
    refine zw_R zr_91_11 (by decide) zm_91 (v := (0, x7)) rfl ?_
    rw [← hQ1]
    show zW E (d) 92 15 [(2, 63), (0, a0), (0, a1), (0, a2), (9, 0)] [(0, x7)] m0 Q
    refine zw_40_5 zr_92_15 ?_ ?_
    · intro h8
      refine zw_push zr_92_31 ?_
      refine zw_10 (L' := [(2, 63), (0, a0), (0, a1), (0, a2), (0, 0)]) zr_92_32 (Nat.le_of_ble_eq_true rfl) rfl ?_
      refine zw_4 zr_92_34 rfl ?_
      refine zw_40_1 zr_92_36 ?_ ?_
      · intro h9
        refine zw_push zr_92_43 ?_
        refine zw_R zr_92_44 (by decide) zm_92 (v := (0, 0)) rfl ?_
        rw [← hQ]; exact ⟨_, rfl, by omega, by omega, rfl, by unfold rgv; split <;> omega⟩
      · intro h11; omega
    · intro h12
      refine zw_7 zr_92_18 rfl ?_
      refine zw_3 zr_92_19 rfl ?_
      refine zw_3 zr_92_20 rfl ?_
      refine zw_C zr_92_21 (Or.inl rfl) zm_91 rfl rfl ⟨Nat.le_of_ble_eq_true rfl, Nat.le_of_ble_eq_true rfl, Nat.le_of_ble_eq_true rfl, rfl, by decide⟩ (by omega) (P := (fun v m' => zW E (d) 92 24 [(2, 63), (0, a0), (0, a1), (0, a2), (9, 0)] (if v.1 = 9 then [] else v :: []) m' Q)) ?_ (fun _ _ h => h)
      generalize hQ1 : (fun v m' => zW E (d) 92 24 [(2, 63), (0, a0), (0, a1), (0, a2), (9, 0)] (if v.1 = 9 then [] else v :: []) m' Q) = Q1
      show zW E (d - 1) 91 0 [(2, 63), (0, a2), (0, a0)] [] m0 Q1
      refine zw_7 zr_91_0 rfl ?_
      refine zw_46r (s := 65) zr_91_1 rfl rfl rfl rfl ?_
      refine zw_3 zr_91_4 rfl ?_
      refine zw_push zr_91_5 ?_
      refine zw_18 zr_91_7 (by omega) ?_
      refine zw_3 zr_91_8 rfl ?_
      refine zw_16 zr_91_9 (by omega) ?_
      refine zw_48 (c := 65) (len := 100) zr_91_10 rfl rfl (by omega) (by omega) ?_
      intro x13 ex13
      have bx13 := hI0.ra (c := 65) (len := 100) (k := (((a2 * 10) + a0)).toNat) rfl (by omega)
      rw [← ex13] at bx13
      have qx13 : x13 = F65 (((a2 * 10) + a0)).toNat := by rw [← hG65]; exact ex13
      clear ex13
      refine zw_R zr_91_11 (by decide) zm_91 (v := (0, x13)) rfl ?_
      rw [← hQ1]
      show zW E (d) 92 24 [(2, 63), (0, a0), (0, a1), (0, a2), (9, 0)] [(0, x13)] m0 Q
      refine zw_40_5 zr_92_24 ?_ ?_
      · intro h14
        refine zw_push zr_92_31 ?_
        refine zw_10 (L' := [(2, 63), (0, a0), (0, a1), (0, a2), (0, 0)]) zr_92_32 (Nat.le_of_ble_eq_true rfl) rfl ?_
        refine zw_4 zr_92_34 rfl ?_
        refine zw_40_1 zr_92_36 ?_ ?_
        · intro h15
          refine zw_push zr_92_43 ?_
          refine zw_R zr_92_44 (by decide) zm_92 (v := (0, 0)) rfl ?_
          rw [← hQ]; exact ⟨_, rfl, by omega, by omega, rfl, by unfold rgv; split <;> omega⟩
        · intro h17; omega
      · intro h18
        refine zw_push zr_92_27 ?_
        refine zw_42 zr_92_28 ?_
        refine zw_10 (L' := [(2, 63), (0, a0), (0, a1), (0, a2), (0, 1)]) zr_92_32 (Nat.le_of_ble_eq_true rfl) rfl ?_
        refine zw_4 zr_92_34 rfl ?_
        refine zw_40_1 zr_92_36 ?_ ?_
        · intro h19; omega
        · intro h20
          refine zw_push zr_92_39 ?_
          refine zw_42 zr_92_40 ?_
          refine zw_R zr_92_44 (by decide) zm_92 (v := (0, 1)) rfl ?_
          rw [← hQ]; exact ⟨_, rfl, by omega, by omega, rfl, by unfold rgv; split <;> omega⟩

abbrev W_93 : List (Nat × Nat) := [(65, 1000)]
set_option maxHeartbeats 8000000 in
theorem th_93 {E : zE} {d : Nat} {m0 : zM} {g0 : Int} {g1 : Int} {g2 : Int} {F65 : Nat → Int} {F6 : Nat → Int} {F7 : Nat → Int} {F8 : Nat → Int} (hd : 3 ≤ d) (hI0 : zInv m0) (hg0 : m0 1 0 = g0) (hg1 : m0 1 1 = g1) (hg2 : m0 1 2 = g2) (hG65 : m0 65 = F65) (hG6 : m0 6 = F6) (hG7 : m0 7 = F7) (hG8 : m0 8 = F8) : zC E d 93 [(2, 63)] m0 (fun v m' => ∃ r : Int, v = (0, r) ∧ 0 ≤ r ∧ r ≤ 2000 ∧ zInv m' ∧ zFr W_93 m0 m' ∧ (∃ f, zWn f F6 F7 F8 g2 g1 ∧ r = ra1 f g0.toNat g0.toNat)) := by
  have hF0 : zFr W_93 m0 m0 := zFr.rfl
  have bg0 := ib_1_0 hI0
  rw [hg0] at bg0
  have bg1 := ib_1_1 hI0
  rw [hg1] at bg1
  have bg2 := ib_1_2 hI0
  rw [hg2] at bg2
  generalize hQ : (fun (v : zV) (m' : zM) => ∃ r : Int, v = (0, r) ∧ 0 ≤ r ∧ r ≤ 2000 ∧ zInv m' ∧ zFr W_93 m0 m' ∧ (∃ f, zWn f F6 F7 F8 g2 g1 ∧ r = ra1 f g0.toNat g0.toNat)) = Q
  show zW E d 93 0 [(2, 63), (9, 0), (9, 0), (9, 0), (9, 0)] [] m0 Q
  refine zw_7 zr_93_0 rfl ?_
  refine zw_C zr_93_1 (Or.inl rfl) zm_90 rfl rfl ⟨Nat.le_of_ble_eq_true rfl, Nat.le_of_ble_eq_true rfl, Nat.le_of_ble_eq_true rfl, rfl, by decide⟩ (by omega) (th_90 (d := d - 1) (by omega) hI0  (g0 := g1) (g1 := g2)  (F65 := F65) (F6 := F6) (F7 := F7) (F8 := F8) hg1 hg2 hG65 hG6 hG7 hG8  ) ?_
  rintro _ m1 ⟨rfl, hIm1, gm1, po0_m1⟩
  have hFm1 : zFr W_93 m0 m1 := hF0.trans gm1 rfl
  have km1_1_0 : m1 1 0 = g0 := (gm1 1 0 rfl).trans hg0
  have km1_1_1 : m1 1 1 = g1 := (gm1 1 1 rfl).trans hg1
  have km1_1_2 : m1 1 2 = g2 := (gm1 1 2 rfl).trans hg2
  obtain ⟨f2, fm1_65⟩ : ∃ f, m1 65 = f := ⟨_, rfl⟩
  try rw [fm1_65] at po0_m1
  have fm1_6 : m1 6 = F6 := (funext fun k => gm1 6 k rfl).trans hG6
  have fm1_7 : m1 7 = F7 := (funext fun k => gm1 7 k rfl).trans hG7
  have fm1_8 : m1 8 = F8 := (funext fun k => gm1 8 k rfl).trans hG8
  show zW E (d) 93 4 [(2, 63), (9, 0), (9, 0), (9, 0), (9, 0)] [] m1 Q
  refine zw_push zr_93_4 ?_
  refine zw_9 (L' := [(2, 63), (0, 0), (9, 0), (9, 0), (9, 0)]) zr_93_5 (Nat.le_of_ble_eq_true rfl) rfl ?_
  refine zw_push zr_93_6 ?_
  refine zw_9 (L' := [(2, 63), (0, 0), (0, 0), (9, 0), (9, 0)]) zr_93_7 (Nat.le_of_ble_eq_true rfl) rfl ?_
  have lp8_5 : ∀ (nlp8_5 : Nat) (i3 i4 : Int), 0 ≤ i3 → i3 ≤ 2000 → 0 ≤ i4 → i4 ≤ 10 → (i3 = ra1 f2 g0.toNat (i4).toNat) → (i3 ≤ 200 * i4 ∧ i4 ≤ g0) → (10 - i4).toNat < nlp8_5 → zW E (d) 93 8 [(2, 63), (0, i3), (0, i4), (9, 0), (9, 0)] [] m1 Q := by
    intro nlp8_5
    induction nlp8_5 with
    | zero =>
      intros
      exact absurd (by assumption : _ < 0) (Nat.not_lt_zero _)
    | succ nlp8_5 ihlp8_5 =>
      intro i3 i4 li3 ui3 li4 ui4 hv0lp8_5 hv1lp8_5 hmlp8_5
      refine zw_3 zr_93_8 rfl ?_
      refine zw_7 zr_93_9 rfl ?_
      refine zw_46r (s := 1) zr_93_10 rfl rfl rfl rfl ?_
      refine zw_46i zr_93_13 km1_1_0 rfl rfl rfl ?_
      refine zw_41_3 zr_93_16 ?_ ?_
      · intro h7
        have z8 := hv0lp8_5; rw [show (i4).toNat = g0.toNat by omega] at z8
        refine zw_3 zr_93_89 rfl ?_
        refine zw_R zr_93_90 (by decide) zm_93 (v := (0, i3)) rfl ?_
        rw [← hQ]; exact ⟨_, rfl, by omega, by omega, hIm1, hFm1, ⟨f2, by assumption, by omega⟩⟩
      · intro h10
        refine zw_3 zr_93_19 rfl ?_
        refine zw_push zr_93_20 ?_
        refine zw_16 zr_93_21 (by omega) ?_
        refine zw_9 (L' := [(2, 63), (0, i3), (0, i4), (0, (i4 + 1)), (9, 0)]) zr_93_22 (Nat.le_of_ble_eq_true rfl) rfl ?_
        have lp23_13 : ∀ (nlp23_13 : Nat) (i11 i12 : Int), 0 ≤ i11 → i11 ≤ 2000 → 1 ≤ i12 → i12 ≤ 10 → (i11 = ra1 f2 g0.toNat (i4).toNat + ra2 f2 g0.toNat (i4).toNat (i12).toNat) → (i11 ≤ 200 * i4 + 20 * i12 ∧ i12 ≤ g0 ∧ i4 + 1 ≤ i12) → (10 - i12).toNat < nlp23_13 → zW E (d) 93 23 [(2, 63), (0, i11), (0, i4), (0, i12), (9, 0)] [] m1 Q := by
          intro nlp23_13
          induction nlp23_13 with
          | zero =>
            intros
            exact absurd (by assumption : _ < 0) (Nat.not_lt_zero _)
          | succ nlp23_13 ihlp23_13 =>
            intro i11 i12 li11 ui11 li12 ui12 hv0lp23_13 hv1lp23_13 hmlp23_13
            refine zw_3 zr_93_23 rfl ?_
            refine zw_7 zr_93_24 rfl ?_
            refine zw_46r (s := 1) zr_93_25 rfl rfl rfl rfl ?_
            refine zw_46i zr_93_28 km1_1_0 rfl rfl rfl ?_
            refine zw_41_3 zr_93_31 ?_ ?_
            · intro h15
              have z16 := hv0lp23_13; rw [show (i12).toNat = g0.toNat by omega] at z16
              have z17 := ra1_s f2 g0.toNat (i4) (by omega)
              refine zw_15 (c := 1) (L' := [(2, 63), (0, i11), (0, (i4 + 1)), (0, i12), (9, 0)]) zr_93_83 rfl (by decide) (by omega) rfl ?_
              refine zw_42 zr_93_86 ?_
              exact zw_less (L := [(2, 63), (0, i11), (0, (i4 + 1)), (9, 0), (9, 0)]) ⟨Or.inr rfl, Or.inr rfl, Or.inr rfl, Or.inl rfl, Or.inl rfl, trivial⟩ (ihlp8_5 (i11) ((i4 + 1))  (by omega) (by omega) (by omega) (by omega) (by omega) (by omega) (by omega))
            · intro h18
              refine zw_3 zr_93_34 rfl ?_
              refine zw_push zr_93_35 ?_
              refine zw_16 zr_93_36 (by omega) ?_
              refine zw_10 (L' := [(2, 63), (0, i11), (0, i4), (0, i12), (0, (i12 + 1))]) zr_93_37 (Nat.le_of_ble_eq_true rfl) rfl ?_
              have lp39_21 : ∀ (nlp39_21 : Nat) (i19 i20 : Int), 0 ≤ i19 → i19 ≤ 2000 → 2 ≤ i20 → i20 ≤ 10 → (i19 = ra1 f2 g0.toNat (i4).toNat + ra2 f2 g0.toNat (i4).toNat (i12).toNat + ra3 f2 (i4).toNat (i12).toNat (i20).toNat) → (i19 ≤ 200 * i4 + 20 * i12 + 2 * i20 ∧ i20 ≤ g0 ∧ i12 + 1 ≤ i20) → (10 - i20).toNat < nlp39_21 → zW E (d) 93 39 [(2, 63), (0, i19), (0, i4), (0, i12), (0, i20)] [] m1 Q := by
                intro nlp39_21
                induction nlp39_21 with
                | zero =>
                  intros
                  exact absurd (by assumption : _ < 0) (Nat.not_lt_zero _)
                | succ nlp39_21 ihlp39_21 =>
                  intro i19 i20 li19 ui19 li20 ui20 hv0lp39_21 hv1lp39_21 hmlp39_21
                  refine zw_4 zr_93_39 rfl ?_
                  refine zw_7 zr_93_41 rfl ?_
                  refine zw_46r (s := 1) zr_93_42 rfl rfl rfl rfl ?_
                  refine zw_46i zr_93_45 km1_1_0 rfl rfl rfl ?_
                  refine zw_41_3 zr_93_48 ?_ ?_
                  · intro h23
                    have z24 := hv0lp39_21; rw [show (i20).toNat = g0.toNat by omega] at z24
                    have z25 := ra2_s f2 g0.toNat (i4) (i12) (by omega) (by omega)
                    refine zw_15 (c := 1) (L' := [(2, 63), (0, i19), (0, i4), (0, (i12 + 1)), (0, i20)]) zr_93_77 rfl (by decide) (by omega) rfl ?_
                    refine zw_42 zr_93_80 ?_
                    exact zw_less (L := [(2, 63), (0, i19), (0, i4), (0, (i12 + 1)), (9, 0)]) ⟨Or.inr rfl, Or.inr rfl, Or.inr rfl, Or.inr rfl, Or.inl rfl, trivial⟩ (ihlp23_13 (i19) ((i12 + 1))  (by omega) (by omega) (by omega) (by omega) (by omega) (by omega) (by omega))
                  · intro h26
                    refine zw_3 zr_93_51 rfl ?_
                    refine zw_7 zr_93_52 rfl ?_
                    refine zw_3 zr_93_53 rfl ?_
                    refine zw_3 zr_93_54 rfl ?_
                    refine zw_4 zr_93_55 rfl ?_
                    refine zw_C zr_93_57 (Or.inl rfl) zm_92 rfl rfl ⟨Nat.le_of_ble_eq_true rfl, Nat.le_of_ble_eq_true rfl, Nat.le_of_ble_eq_true rfl, rfl, by decide⟩ (by omega) (th_92 (d := d - 1) (by omega) hIm1 (a0 := i4) (a1 := i12) (a2 := i20)   (F65 := f2)  fm1_65 (by omega) (by omega) (by omega) ) ?_
                    rintro _ _ ⟨r27, rfl, hr27a, hr27b, rfl, po0_r27⟩
                    show zW E (d) 93 60 [(2, 63), (0, i19), (0, i4), (0, i12), (0, i20)] [(0, r27), (0, i19)] m1 Q
                    refine zw_7 zr_93_60 rfl ?_
                    refine zw_3 zr_93_61 rfl ?_
                    refine zw_4 zr_93_62 rfl ?_
                    refine zw_3 zr_93_64 rfl ?_
                    refine zw_C zr_93_65 (Or.inl rfl) zm_92 rfl rfl ⟨Nat.le_of_ble_eq_true rfl, Nat.le_of_ble_eq_true rfl, Nat.le_of_ble_eq_true rfl, rfl, by decide⟩ (by omega) (th_92 (d := d - 1) (by omega) hIm1 (a0 := i4) (a1 := i20) (a2 := i12)   (F65 := f2)  fm1_65 (by omega) (by omega) (by omega) ) ?_
                    rintro _ _ ⟨r28, rfl, hr28a, hr28b, rfl, po0_r28⟩
                    show zW E (d) 93 68 [(2, 63), (0, i19), (0, i4), (0, i12), (0, i20)] [(0, r28), (0, r27), (0, i19)] m1 Q
                    refine zw_16 zr_93_68 (by omega) ?_
                    refine zw_16 zr_93_69 (by omega) ?_
                    refine zw_9 (L' := [(2, 63), (0, (i19 + (r27 + r28))), (0, i4), (0, i12), (0, i20)]) zr_93_70 (Nat.le_of_ble_eq_true rfl) rfl ?_
                    have z29 := ra3_s f2 (i4) (i12) (i20) (by omega) (by omega) (by omega)
                    refine zw_15 (c := 1) (L' := [(2, 63), (0, (i19 + (r27 + r28))), (0, i4), (0, i12), (0, (i20 + 1))]) zr_93_71 rfl (by decide) (by omega) rfl ?_
                    refine zw_42 zr_93_74 ?_
                    exact zw_less (L := [(2, 63), (0, (i19 + (r27 + r28))), (0, i4), (0, i12), (0, (i20 + 1))]) ⟨Or.inr rfl, Or.inr rfl, Or.inr rfl, Or.inr rfl, Or.inr rfl, trivial⟩ (ihlp39_21 ((i19 + (r27 + r28))) ((i20 + 1))  (by omega) (by omega) (by omega) (by omega) (by omega) (by omega) (by omega))
              exact lp39_21 _ (i11) ((i12 + 1))  (by omega) (by omega) (by omega) (by omega) (by have := ra3_0 f2 (i4) (i12) (by omega); omega) (by omega) (Nat.lt_succ_self _)
        exact lp23_13 _ (i3) ((i4 + 1))  (by omega) (by omega) (by omega) (by omega) (by have := ra2_0 f2 g0.toNat (i4) (by omega); omega) (by omega) (Nat.lt_succ_self _)
  exact lp8_5 _ (0) (0)  (by omega) (by omega) (by omega) (by omega) (by rfl) (by omega) (Nat.lt_succ_self _)

abbrev W_124 : List (Nat × Nat) := [(65, 1000)]
set_option maxHeartbeats 8000000 in
theorem th_124 {E : zE} {d : Nat} {m0 : zM} {g0 : Int} {g1 : Int} {g2 : Int} {F6 : Nat → Int} {F7 : Nat → Int} {F8 : Nat → Int} (hd : 4 ≤ d) (hI0 : zInv m0) (hg0 : m0 1 0 = g0) (hg1 : m0 1 1 = g1) (hg2 : m0 1 2 = g2) (hG6 : m0 6 = F6) (hG7 : m0 7 = F7) (hG8 : m0 8 = F8) : zC E d 124 [(2, 0)] m0 (fun v m' => ∃ r : Int, v = (0, r) ∧ 0 ≤ r ∧ r ≤ 2000 ∧ zInv m' ∧ zFr W_124 m0 m' ∧ (∃ f, zWn f F6 F7 F8 g2 g1 ∧ r = ra1 f g0.toNat g0.toNat)) := by
  have hF0 : zFr W_124 m0 m0 := zFr.rfl
  have bg0 := ib_1_0 hI0
  rw [hg0] at bg0
  have bg1 := ib_1_1 hI0
  rw [hg1] at bg1
  have bg2 := ib_1_2 hI0
  rw [hg2] at bg2
  generalize hQ : (fun (v : zV) (m' : zM) => ∃ r : Int, v = (0, r) ∧ 0 ≤ r ∧ r ≤ 2000 ∧ zInv m' ∧ zFr W_124 m0 m' ∧ (∃ f, zWn f F6 F7 F8 g2 g1 ∧ r = ra1 f g0.toNat g0.toNat)) = Q
  show zW E d 124 0 [(2, 0)] [] m0 Q
  refine zw_7 zr_124_0 rfl ?_
  refine zw_46r (s := 63) zr_124_1 rfl rfl rfl rfl ?_
  refine zw_C zr_124_4 (Or.inl rfl) zm_93 rfl rfl ⟨Nat.le_of_ble_eq_true rfl, Nat.le_of_ble_eq_true rfl, Nat.le_of_ble_eq_true rfl, rfl, by decide⟩ (by omega) (th_93 (d := d - 1) (by omega) hI0  (g0 := g0) (g1 := g1) (g2 := g2)  (F65 := m0 65) (F6 := F6) (F7 := F7) (F8 := F8) hg0 hg1 hg2 rfl hG6 hG7 hG8  ) ?_
  rintro _ m1 ⟨r2, rfl, hr2a, hr2b, hIm1, gm1, po0_r2⟩
  have hFm1 : zFr W_124 m0 m1 := hF0.trans gm1 rfl
  have km1_1_0 : m1 1 0 = g0 := (gm1 1 0 rfl).trans hg0
  have km1_1_1 : m1 1 1 = g1 := (gm1 1 1 rfl).trans hg1
  have km1_1_2 : m1 1 2 = g2 := (gm1 1 2 rfl).trans hg2
  have fm1_6 : m1 6 = F6 := (funext fun k => gm1 6 k rfl).trans hG6
  have fm1_7 : m1 7 = F7 := (funext fun k => gm1 7 k rfl).trans hG7
  have fm1_8 : m1 8 = F8 := (funext fun k => gm1 8 k rfl).trans hG8
  show zW E (d) 124 7 [(2, 0)] [(0, r2)] m1 Q
  refine zw_R zr_124_7 (by decide) zm_124 (v := (0, r2)) rfl ?_
  rw [← hQ]; exact ⟨_, rfl, by omega, by omega, hIm1, hFm1, po0_r2⟩

set_option maxHeartbeats 8000000 in
theorem th_197 {E : zE} {d : Nat} {m0 : zM} {a0 : Int} {a1 : Int} {F70 : Nat → Int} (hd : 2 ≤ d) (hI0 : zInv m0) (hG70 : m0 70 = F70) (ha0 : 0 ≤ a0 ∧ a0 ≤ 9) (ha1 : 0 ≤ a1 ∧ a1 ≤ 9) : zC E d 197 [(2, 69), (0, a0), (0, a1)] m0 (fun v m' => ∃ r : Int, v = (0, r) ∧ 0 ≤ r ∧ r ≤ 1 ∧ m0 = m' ∧ (r = hbv F70 a0 a1 (F70 823).toNat)) := by
  generalize hQ : (fun (v : zV) (m' : zM) => ∃ r : Int, v = (0, r) ∧ 0 ≤ r ∧ r ≤ 1 ∧ m0 = m' ∧ (r = hbv F70 a0 a1 (F70 823).toNat)) = Q
  show zW E d 197 0 [(2, 69), (0, a0), (0, a1), (9, 0), (9, 0), (9, 0)] [] m0 Q
  refine zw_push zr_197_0 ?_
  refine zw_9 (L' := [(2, 69), (0, a0), (0, a1), (0, 0), (9, 0), (9, 0)]) zr_197_1 (Nat.le_of_ble_eq_true rfl) rfl ?_
  refine zw_push zr_197_2 ?_
  refine zw_10 (L' := [(2, 69), (0, a0), (0, a1), (0, 0), (0, 0), (9, 0)]) zr_197_3 (Nat.le_of_ble_eq_true rfl) rfl ?_
  have lp5_3 : ∀ (nlp5_3 : Nat) (i1 i2 : Int), 0 ≤ i1 → i1 ≤ 1 → 0 ≤ i2 → i2 ≤ 60 → (i1 = hbv F70 a0 a1 (i2).toNat) → (i2 ≤ m0 70 823) → (60 - i2).toNat < nlp5_3 → zW E (d) 197 5 [(2, 69), (0, a0), (0, a1), (0, i1), (0, i2), (9, 0)] [] m0 Q := by
    intro nlp5_3
    induction nlp5_3 with
    | zero =>
      intros
      exact absurd (by assumption : _ < 0) (Nat.not_lt_zero _)
    | succ nlp5_3 ihlp5_3 =>
      intro i1 i2 li1 ui1 li2 ui2 hv0lp5_3 hv1lp5_3 hmlp5_3
      have z5 := zhb F70 a0 a1 (i2).toNat (i2 + 1).toNat ((90 + (6 * i2)) + 1).toNat ((90 + (6 * i2)) + 2).toNat ((90 + (6 * i2)) + 3).toNat ((90 + (6 * i2)) + 4).toNat (by omega) (by omega) (by omega) (by omega) (by omega)
      refine zw_4 zr_197_5 rfl ?_
      refine zw_7 zr_197_7 rfl ?_
      refine zw_C zr_197_8 (Or.inl rfl) zm_142 rfl rfl ⟨Nat.le_of_ble_eq_true rfl, Nat.le_of_ble_eq_true rfl, Nat.le_of_ble_eq_true rfl, rfl, by decide⟩ (by omega) (P := (fun v m' => zW E (d) 197 11 [(2, 69), (0, a0), (0, a1), (0, i1), (0, i2), (9, 0)] (if v.1 = 9 then [(0, i2)] else v :: [(0, i2)]) m' Q)) ?_ (fun _ _ h => h)
      generalize hQ1 : (fun v m' => zW E (d) 197 11 [(2, 69), (0, a0), (0, a1), (0, i1), (0, i2), (9, 0)] (if v.1 = 9 then [(0, i2)] else v :: [(0, i2)]) m' Q) = Q1
      show zW E (d - 1) 142 0 [(2, 69)] [] m0 Q1
      refine zw_7 zr_142_0 rfl ?_
      refine zw_46r (s := 70) zr_142_1 rfl rfl rfl rfl ?_
      refine zw_push zr_142_4 ?_
      obtain ⟨f6, ef6⟩ : ∃ v, m0 70 823 = v := ⟨_, rfl⟩
      have bf6 : 0 ≤ m0 70 823 ∧ m0 70 823 ≤ 60 := ib_70_meetings hI0 (by omega)
      rw [ef6] at bf6
      refine zw_48k (c := 70) (len := 826) zr_142_7 rfl rfl (by omega) (by omega) (show (823 : Int).toNat = 823 by omega) ef6 ?_
      refine zw_R zr_142_8 (by decide) zm_142 (v := (0, f6)) rfl ?_
      rw [← hQ1]
      show zW E (d) 197 11 [(2, 69), (0, a0), (0, a1), (0, i1), (0, i2), (9, 0)] [(0, f6), (0, i2)] m0 Q
      refine zw_41_3 zr_197_11 ?_ ?_
      · intro h7
        refine zw_3 zr_197_117 rfl ?_
        refine zw_R zr_197_118 (by decide) zm_197 (v := (0, i1)) (zRetB (by omega)) ?_
        rw [← hQ]; exact ⟨_, rfl, by omega, by omega, rfl, by rw [show F70 823 = i2 by rw [← hG70]; omega]; omega⟩
      · intro h9
        refine zw_7 zr_197_14 rfl ?_
        refine zw_4 zr_197_15 rfl ?_
        refine zw_push zr_197_17 ?_
        refine zw_C zr_197_18 (Or.inl rfl) zm_144 rfl rfl ⟨Nat.le_of_ble_eq_true rfl, Nat.le_of_ble_eq_true rfl, Nat.le_of_ble_eq_true rfl, rfl, by decide⟩ (by omega) (P := (fun v m' => zW E (d) 197 21 [(2, 69), (0, a0), (0, a1), (0, i1), (0, i2), (9, 0)] (if v.1 = 9 then [] else v :: []) m' Q)) ?_ (fun _ _ h => h)
        generalize hQ1 : (fun v m' => zW E (d) 197 21 [(2, 69), (0, a0), (0, a1), (0, i1), (0, i2), (9, 0)] (if v.1 = 9 then [] else v :: []) m' Q) = Q1
        show zW E (d - 1) 144 0 [(2, 69), (0, i2), (0, 1)] [] m0 Q1
        refine zw_7 zr_144_0 rfl ?_
        refine zw_46r (s := 70) zr_144_1 rfl rfl rfl rfl ?_
        refine zw_push zr_144_4 ?_
        refine zw_push zr_144_6 ?_
        refine zw_3 zr_144_8 rfl ?_
        refine zw_18 zr_144_9 (by omega) ?_
        refine zw_16 zr_144_10 (by omega) ?_
        refine zw_3 zr_144_11 rfl ?_
        refine zw_16 zr_144_12 (by omega) ?_
        refine zw_48 (c := 70) (len := 826) zr_144_13 rfl rfl (by omega) (by omega) ?_
        intro x10 ex10
        have bx10 := ib_70_m1 hI0 (k := (((90 + (6 * i2)) + 1)).toNat) (by omega)
        rw [← ex10] at bx10
        have qx10 : x10 = F70 (((90 + (6 * i2)) + 1)).toNat := by rw [← hG70]; exact ex10
        refine zw_R zr_144_14 (by decide) zm_144 (v := (0, x10)) rfl ?_
        rw [← hQ1]
        show zW E (d) 197 21 [(2, 69), (0, a0), (0, a1), (0, i1), (0, i2), (9, 0)] [(0, x10)] m0 Q
        refine zw_3 zr_197_21 rfl ?_
        refine zw_41_4 zr_197_22 ?_ ?_
        · intro h11
          refine zw_7 zr_197_47 rfl ?_
          refine zw_4 zr_197_48 rfl ?_
          refine zw_push zr_197_50 ?_
          refine zw_C zr_197_51 (Or.inl rfl) zm_144 rfl rfl ⟨Nat.le_of_ble_eq_true rfl, Nat.le_of_ble_eq_true rfl, Nat.le_of_ble_eq_true rfl, rfl, by decide⟩ (by omega) (P := (fun v m' => zW E (d) 197 54 [(2, 69), (0, a0), (0, a1), (0, i1), (0, i2), (9, 0)] (if v.1 = 9 then [] else v :: []) m' Q)) ?_ (fun _ _ h => h)
          generalize hQ1 : (fun v m' => zW E (d) 197 54 [(2, 69), (0, a0), (0, a1), (0, i1), (0, i2), (9, 0)] (if v.1 = 9 then [] else v :: []) m' Q) = Q1
          show zW E (d - 1) 144 0 [(2, 69), (0, i2), (0, 1)] [] m0 Q1
          refine zw_7 zr_144_0 rfl ?_
          refine zw_46r (s := 70) zr_144_1 rfl rfl rfl rfl ?_
          refine zw_push zr_144_4 ?_
          refine zw_push zr_144_6 ?_
          refine zw_3 zr_144_8 rfl ?_
          refine zw_18 zr_144_9 (by omega) ?_
          refine zw_16 zr_144_10 (by omega) ?_
          refine zw_3 zr_144_11 rfl ?_
          refine zw_16 zr_144_12 (by omega) ?_
          refine zw_48k (c := 70) (len := 826) zr_144_13 rfl rfl (by omega) (by omega) rfl ex10.symm ?_
          refine zw_R zr_144_14 (by decide) zm_144 (v := (0, x10)) rfl ?_
          rw [← hQ1]
          show zW E (d) 197 54 [(2, 69), (0, a0), (0, a1), (0, i1), (0, i2), (9, 0)] [(0, x10)] m0 Q
          refine zw_3 zr_197_54 rfl ?_
          refine zw_41_4 zr_197_55 ?_ ?_
          · intro h12
            refine zw_push zr_197_83 ?_
            refine zw_10 (L' := [(2, 69), (0, a0), (0, a1), (0, i1), (0, i2), (0, 0)]) zr_197_84 (Nat.le_of_ble_eq_true rfl) rfl ?_
            refine zw_3 zr_197_86 rfl ?_
            refine zw_40_4 zr_197_87 ?_ ?_
            · intro h13
              refine zw_push zr_197_105 ?_
              refine zw_42 zr_197_106 ?_
              refine zw_9 (L' := [(2, 69), (0, a0), (0, a1), (0, 1), (0, i2), (0, 0)]) zr_197_110 (Nat.le_of_ble_eq_true rfl) rfl ?_
              refine zw_15 (c := 1) (L' := [(2, 69), (0, a0), (0, a1), (0, 1), (0, (i2 + 1)), (0, 0)]) zr_197_111 rfl (by decide) (by omega) rfl ?_
              refine zw_42 zr_197_114 ?_
              exact zw_less (L := [(2, 69), (0, a0), (0, a1), (0, 1), (0, (i2 + 1)), (9, 0)]) ⟨Or.inr rfl, Or.inr rfl, Or.inr rfl, Or.inr rfl, Or.inr rfl, Or.inl rfl, trivial⟩ (ihlp5_3 (1) ((i2 + 1))  (by omega) (by omega) (by omega) (by omega) (by omega) (by omega) (by omega))
            · intro h14
              refine zw_4 zr_197_90 rfl ?_
              refine zw_40_1 zr_197_92 ?_ ?_
              · intro h15
                refine zw_push zr_197_109 ?_
                refine zw_9 (L' := [(2, 69), (0, a0), (0, a1), (0, 0), (0, i2), (0, 0)]) zr_197_110 (Nat.le_of_ble_eq_true rfl) rfl ?_
                refine zw_15 (c := 1) (L' := [(2, 69), (0, a0), (0, a1), (0, 0), (0, (i2 + 1)), (0, 0)]) zr_197_111 rfl (by decide) (by omega) rfl ?_
                refine zw_42 zr_197_114 ?_
                exact zw_less (L := [(2, 69), (0, a0), (0, a1), (0, 0), (0, (i2 + 1)), (9, 0)]) ⟨Or.inr rfl, Or.inr rfl, Or.inr rfl, Or.inr rfl, Or.inr rfl, Or.inl rfl, trivial⟩ (ihlp5_3 (0) ((i2 + 1))  (by omega) (by omega) (by omega) (by omega) (by omega) (by omega) (by omega))
              · intro h16; omega
          · intro h17
            refine zw_7 zr_197_58 rfl ?_
            refine zw_4 zr_197_59 rfl ?_
            refine zw_push zr_197_61 ?_
            refine zw_C zr_197_62 (Or.inl rfl) zm_144 rfl rfl ⟨Nat.le_of_ble_eq_true rfl, Nat.le_of_ble_eq_true rfl, Nat.le_of_ble_eq_true rfl, rfl, by decide⟩ (by omega) (P := (fun v m' => zW E (d) 197 65 [(2, 69), (0, a0), (0, a1), (0, i1), (0, i2), (9, 0)] (if v.1 = 9 then [] else v :: []) m' Q)) ?_ (fun _ _ h => h)
            generalize hQ1 : (fun v m' => zW E (d) 197 65 [(2, 69), (0, a0), (0, a1), (0, i1), (0, i2), (9, 0)] (if v.1 = 9 then [] else v :: []) m' Q) = Q1
            show zW E (d - 1) 144 0 [(2, 69), (0, i2), (0, 2)] [] m0 Q1
            refine zw_7 zr_144_0 rfl ?_
            refine zw_46r (s := 70) zr_144_1 rfl rfl rfl rfl ?_
            refine zw_push zr_144_4 ?_
            refine zw_push zr_144_6 ?_
            refine zw_3 zr_144_8 rfl ?_
            refine zw_18 zr_144_9 (by omega) ?_
            refine zw_16 zr_144_10 (by omega) ?_
            refine zw_3 zr_144_11 rfl ?_
            refine zw_16 zr_144_12 (by omega) ?_
            refine zw_48 (c := 70) (len := 826) zr_144_13 rfl rfl (by omega) (by omega) ?_
            intro x18 ex18
            have bx18 := ib_70_m2 hI0 (k := (((90 + (6 * i2)) + 2)).toNat) (by omega)
            rw [← ex18] at bx18
            have qx18 : x18 = F70 (((90 + (6 * i2)) + 2)).toNat := by rw [← hG70]; exact ex18
            refine zw_R zr_144_14 (by decide) zm_144 (v := (0, x18)) rfl ?_
            rw [← hQ1]
            show zW E (d) 197 65 [(2, 69), (0, a0), (0, a1), (0, i1), (0, i2), (9, 0)] [(0, x18)] m0 Q
            refine zw_3 zr_197_65 rfl ?_
            refine zw_41_4 zr_197_66 ?_ ?_
            · intro h19
              refine zw_push zr_197_83 ?_
              refine zw_10 (L' := [(2, 69), (0, a0), (0, a1), (0, i1), (0, i2), (0, 0)]) zr_197_84 (Nat.le_of_ble_eq_true rfl) rfl ?_
              refine zw_3 zr_197_86 rfl ?_
              refine zw_40_4 zr_197_87 ?_ ?_
              · intro h20
                refine zw_push zr_197_105 ?_
                refine zw_42 zr_197_106 ?_
                refine zw_9 (L' := [(2, 69), (0, a0), (0, a1), (0, 1), (0, i2), (0, 0)]) zr_197_110 (Nat.le_of_ble_eq_true rfl) rfl ?_
                refine zw_15 (c := 1) (L' := [(2, 69), (0, a0), (0, a1), (0, 1), (0, (i2 + 1)), (0, 0)]) zr_197_111 rfl (by decide) (by omega) rfl ?_
                refine zw_42 zr_197_114 ?_
                exact zw_less (L := [(2, 69), (0, a0), (0, a1), (0, 1), (0, (i2 + 1)), (9, 0)]) ⟨Or.inr rfl, Or.inr rfl, Or.inr rfl, Or.inr rfl, Or.inr rfl, Or.inl rfl, trivial⟩ (ihlp5_3 (1) ((i2 + 1))  (by omega) (by omega) (by omega) (by omega) (by omega) (by omega) (by omega))
              · intro h21
                refine zw_4 zr_197_90 rfl ?_
                refine zw_40_1 zr_197_92 ?_ ?_
                · intro h22
                  refine zw_push zr_197_109 ?_
                  refine zw_9 (L' := [(2, 69), (0, a0), (0, a1), (0, 0), (0, i2), (0, 0)]) zr_197_110 (Nat.le_of_ble_eq_true rfl) rfl ?_
                  refine zw_15 (c := 1) (L' := [(2, 69), (0, a0), (0, a1), (0, 0), (0, (i2 + 1)), (0, 0)]) zr_197_111 rfl (by decide) (by omega) rfl ?_
                  refine zw_42 zr_197_114 ?_
                  exact zw_less (L := [(2, 69), (0, a0), (0, a1), (0, 0), (0, (i2 + 1)), (9, 0)]) ⟨Or.inr rfl, Or.inr rfl, Or.inr rfl, Or.inr rfl, Or.inr rfl, Or.inl rfl, trivial⟩ (ihlp5_3 (0) ((i2 + 1))  (by omega) (by omega) (by omega) (by omega) (by omega) (by omega) (by omega))
                · intro h23; omega
            · intro h24
              refine zw_7 zr_197_69 rfl ?_
              refine zw_4 zr_197_70 rfl ?_
              refine zw_push zr_197_72 ?_
              refine zw_C zr_197_73 (Or.inl rfl) zm_144 rfl rfl ⟨Nat.le_of_ble_eq_true rfl, Nat.le_of_ble_eq_true rfl, Nat.le_of_ble_eq_true rfl, rfl, by decide⟩ (by omega) (P := (fun v m' => zW E (d) 197 76 [(2, 69), (0, a0), (0, a1), (0, i1), (0, i2), (9, 0)] (if v.1 = 9 then [] else v :: []) m' Q)) ?_ (fun _ _ h => h)
              generalize hQ1 : (fun v m' => zW E (d) 197 76 [(2, 69), (0, a0), (0, a1), (0, i1), (0, i2), (9, 0)] (if v.1 = 9 then [] else v :: []) m' Q) = Q1
              show zW E (d - 1) 144 0 [(2, 69), (0, i2), (0, 3)] [] m0 Q1
              refine zw_7 zr_144_0 rfl ?_
              refine zw_46r (s := 70) zr_144_1 rfl rfl rfl rfl ?_
              refine zw_push zr_144_4 ?_
              refine zw_push zr_144_6 ?_
              refine zw_3 zr_144_8 rfl ?_
              refine zw_18 zr_144_9 (by omega) ?_
              refine zw_16 zr_144_10 (by omega) ?_
              refine zw_3 zr_144_11 rfl ?_
              refine zw_16 zr_144_12 (by omega) ?_
              refine zw_48 (c := 70) (len := 826) zr_144_13 rfl rfl (by omega) (by omega) ?_
              intro x25 ex25
              have bx25 := ib_70_m3 hI0 (k := (((90 + (6 * i2)) + 3)).toNat) (by omega)
              rw [← ex25] at bx25
              have qx25 : x25 = F70 (((90 + (6 * i2)) + 3)).toNat := by rw [← hG70]; exact ex25
              refine zw_R zr_144_14 (by decide) zm_144 (v := (0, x25)) rfl ?_
              rw [← hQ1]
              show zW E (d) 197 76 [(2, 69), (0, a0), (0, a1), (0, i1), (0, i2), (9, 0)] [(0, x25)] m0 Q
              refine zw_40_4 zr_197_76 ?_ ?_
              · intro h26
                refine zw_push zr_197_83 ?_
                refine zw_10 (L' := [(2, 69), (0, a0), (0, a1), (0, i1), (0, i2), (0, 0)]) zr_197_84 (Nat.le_of_ble_eq_true rfl) rfl ?_
                refine zw_3 zr_197_86 rfl ?_
                refine zw_40_4 zr_197_87 ?_ ?_
                · intro h27
                  refine zw_push zr_197_105 ?_
                  refine zw_42 zr_197_106 ?_
                  refine zw_9 (L' := [(2, 69), (0, a0), (0, a1), (0, 1), (0, i2), (0, 0)]) zr_197_110 (Nat.le_of_ble_eq_true rfl) rfl ?_
                  refine zw_15 (c := 1) (L' := [(2, 69), (0, a0), (0, a1), (0, 1), (0, (i2 + 1)), (0, 0)]) zr_197_111 rfl (by decide) (by omega) rfl ?_
                  refine zw_42 zr_197_114 ?_
                  exact zw_less (L := [(2, 69), (0, a0), (0, a1), (0, 1), (0, (i2 + 1)), (9, 0)]) ⟨Or.inr rfl, Or.inr rfl, Or.inr rfl, Or.inr rfl, Or.inr rfl, Or.inl rfl, trivial⟩ (ihlp5_3 (1) ((i2 + 1))  (by omega) (by omega) (by omega) (by omega) (by omega) (by omega) (by omega))
                · intro h28
                  refine zw_4 zr_197_90 rfl ?_
                  refine zw_40_1 zr_197_92 ?_ ?_
                  · intro h29
                    refine zw_push zr_197_109 ?_
                    refine zw_9 (L' := [(2, 69), (0, a0), (0, a1), (0, 0), (0, i2), (0, 0)]) zr_197_110 (Nat.le_of_ble_eq_true rfl) rfl ?_
                    refine zw_15 (c := 1) (L' := [(2, 69), (0, a0), (0, a1), (0, 0), (0, (i2 + 1)), (0, 0)]) zr_197_111 rfl (by decide) (by omega) rfl ?_
                    refine zw_42 zr_197_114 ?_
                    exact zw_less (L := [(2, 69), (0, a0), (0, a1), (0, 0), (0, (i2 + 1)), (9, 0)]) ⟨Or.inr rfl, Or.inr rfl, Or.inr rfl, Or.inr rfl, Or.inr rfl, Or.inl rfl, trivial⟩ (ihlp5_3 (0) ((i2 + 1))  (by omega) (by omega) (by omega) (by omega) (by omega) (by omega) (by omega))
                  · intro h30; omega
              · intro h31
                refine zw_push zr_197_79 ?_
                refine zw_42 zr_197_80 ?_
                refine zw_10 (L' := [(2, 69), (0, a0), (0, a1), (0, i1), (0, i2), (0, 1)]) zr_197_84 (Nat.le_of_ble_eq_true rfl) rfl ?_
                refine zw_3 zr_197_86 rfl ?_
                refine zw_40_4 zr_197_87 ?_ ?_
                · intro h32
                  refine zw_push zr_197_105 ?_
                  refine zw_42 zr_197_106 ?_
                  refine zw_9 (L' := [(2, 69), (0, a0), (0, a1), (0, 1), (0, i2), (0, 1)]) zr_197_110 (Nat.le_of_ble_eq_true rfl) rfl ?_
                  refine zw_15 (c := 1) (L' := [(2, 69), (0, a0), (0, a1), (0, 1), (0, (i2 + 1)), (0, 1)]) zr_197_111 rfl (by decide) (by omega) rfl ?_
                  refine zw_42 zr_197_114 ?_
                  exact zw_less (L := [(2, 69), (0, a0), (0, a1), (0, 1), (0, (i2 + 1)), (9, 0)]) ⟨Or.inr rfl, Or.inr rfl, Or.inr rfl, Or.inr rfl, Or.inr rfl, Or.inl rfl, trivial⟩ (ihlp5_3 (1) ((i2 + 1))  (by omega) (by omega) (by omega) (by omega) (by omega) (by omega) (by omega))
                · intro h33
                  refine zw_4 zr_197_90 rfl ?_
                  refine zw_40_1 zr_197_92 ?_ ?_
                  · intro h34; omega
                  · intro h35
                    refine zw_7 zr_197_95 rfl ?_
                    refine zw_4 zr_197_96 rfl ?_
                    refine zw_push zr_197_98 ?_
                    refine zw_C zr_197_99 (Or.inl rfl) zm_144 rfl rfl ⟨Nat.le_of_ble_eq_true rfl, Nat.le_of_ble_eq_true rfl, Nat.le_of_ble_eq_true rfl, rfl, by decide⟩ (by omega) (P := (fun v m' => zW E (d) 197 102 [(2, 69), (0, a0), (0, a1), (0, i1), (0, i2), (0, 1)] (if v.1 = 9 then [] else v :: []) m' Q)) ?_ (fun _ _ h => h)
                    generalize hQ1 : (fun v m' => zW E (d) 197 102 [(2, 69), (0, a0), (0, a1), (0, i1), (0, i2), (0, 1)] (if v.1 = 9 then [] else v :: []) m' Q) = Q1
                    show zW E (d - 1) 144 0 [(2, 69), (0, i2), (0, 4)] [] m0 Q1
                    refine zw_7 zr_144_0 rfl ?_
                    refine zw_46r (s := 70) zr_144_1 rfl rfl rfl rfl ?_
                    refine zw_push zr_144_4 ?_
                    refine zw_push zr_144_6 ?_
                    refine zw_3 zr_144_8 rfl ?_
                    refine zw_18 zr_144_9 (by omega) ?_
                    refine zw_16 zr_144_10 (by omega) ?_
                    refine zw_3 zr_144_11 rfl ?_
                    refine zw_16 zr_144_12 (by omega) ?_
                    refine zw_48 (c := 70) (len := 826) zr_144_13 rfl rfl (by omega) (by omega) ?_
                    intro x36 ex36
                    have bx36 := ib_70_m4 hI0 (k := (((90 + (6 * i2)) + 4)).toNat) (by omega)
                    rw [← ex36] at bx36
                    have qx36 : x36 = F70 (((90 + (6 * i2)) + 4)).toNat := by rw [← hG70]; exact ex36
                    refine zw_R zr_144_14 (by decide) zm_144 (v := (0, x36)) rfl ?_
                    rw [← hQ1]
                    show zW E (d) 197 102 [(2, 69), (0, a0), (0, a1), (0, i1), (0, i2), (0, 1)] [(0, x36)] m0 Q
                    refine zw_40_4 zr_197_102 ?_ ?_
                    · intro h37
                      refine zw_push zr_197_109 ?_
                      refine zw_9 (L' := [(2, 69), (0, a0), (0, a1), (0, 0), (0, i2), (0, 1)]) zr_197_110 (Nat.le_of_ble_eq_true rfl) rfl ?_
                      refine zw_15 (c := 1) (L' := [(2, 69), (0, a0), (0, a1), (0, 0), (0, (i2 + 1)), (0, 1)]) zr_197_111 rfl (by decide) (by omega) rfl ?_
                      refine zw_42 zr_197_114 ?_
                      exact zw_less (L := [(2, 69), (0, a0), (0, a1), (0, 0), (0, (i2 + 1)), (9, 0)]) ⟨Or.inr rfl, Or.inr rfl, Or.inr rfl, Or.inr rfl, Or.inr rfl, Or.inl rfl, trivial⟩ (ihlp5_3 (0) ((i2 + 1))  (by omega) (by omega) (by omega) (by omega) (by omega) (by omega) (by omega))
                    · intro h38
                      refine zw_push zr_197_105 ?_
                      refine zw_42 zr_197_106 ?_
                      refine zw_9 (L' := [(2, 69), (0, a0), (0, a1), (0, 1), (0, i2), (0, 1)]) zr_197_110 (Nat.le_of_ble_eq_true rfl) rfl ?_
                      refine zw_15 (c := 1) (L' := [(2, 69), (0, a0), (0, a1), (0, 1), (0, (i2 + 1)), (0, 1)]) zr_197_111 rfl (by decide) (by omega) rfl ?_
                      refine zw_42 zr_197_114 ?_
                      exact zw_less (L := [(2, 69), (0, a0), (0, a1), (0, 1), (0, (i2 + 1)), (9, 0)]) ⟨Or.inr rfl, Or.inr rfl, Or.inr rfl, Or.inr rfl, Or.inr rfl, Or.inl rfl, trivial⟩ (ihlp5_3 (1) ((i2 + 1))  (by omega) (by omega) (by omega) (by omega) (by omega) (by omega) (by omega))
        · intro h39
          refine zw_7 zr_197_25 rfl ?_
          refine zw_4 zr_197_26 rfl ?_
          refine zw_push zr_197_28 ?_
          refine zw_C zr_197_29 (Or.inl rfl) zm_144 rfl rfl ⟨Nat.le_of_ble_eq_true rfl, Nat.le_of_ble_eq_true rfl, Nat.le_of_ble_eq_true rfl, rfl, by decide⟩ (by omega) (P := (fun v m' => zW E (d) 197 32 [(2, 69), (0, a0), (0, a1), (0, i1), (0, i2), (9, 0)] (if v.1 = 9 then [] else v :: []) m' Q)) ?_ (fun _ _ h => h)
          generalize hQ1 : (fun v m' => zW E (d) 197 32 [(2, 69), (0, a0), (0, a1), (0, i1), (0, i2), (9, 0)] (if v.1 = 9 then [] else v :: []) m' Q) = Q1
          show zW E (d - 1) 144 0 [(2, 69), (0, i2), (0, 2)] [] m0 Q1
          refine zw_7 zr_144_0 rfl ?_
          refine zw_46r (s := 70) zr_144_1 rfl rfl rfl rfl ?_
          refine zw_push zr_144_4 ?_
          refine zw_push zr_144_6 ?_
          refine zw_3 zr_144_8 rfl ?_
          refine zw_18 zr_144_9 (by omega) ?_
          refine zw_16 zr_144_10 (by omega) ?_
          refine zw_3 zr_144_11 rfl ?_
          refine zw_16 zr_144_12 (by omega) ?_
          refine zw_48 (c := 70) (len := 826) zr_144_13 rfl rfl (by omega) (by omega) ?_
          intro x40 ex40
          have bx40 := ib_70_m2 hI0 (k := (((90 + (6 * i2)) + 2)).toNat) (by omega)
          rw [← ex40] at bx40
          have qx40 : x40 = F70 (((90 + (6 * i2)) + 2)).toNat := by rw [← hG70]; exact ex40
          refine zw_R zr_144_14 (by decide) zm_144 (v := (0, x40)) rfl ?_
          rw [← hQ1]
          show zW E (d) 197 32 [(2, 69), (0, a0), (0, a1), (0, i1), (0, i2), (9, 0)] [(0, x40)] m0 Q
          refine zw_3 zr_197_32 rfl ?_
          refine zw_41_4 zr_197_33 ?_ ?_
          · intro h41
            refine zw_7 zr_197_47 rfl ?_
            refine zw_4 zr_197_48 rfl ?_
            refine zw_push zr_197_50 ?_
            refine zw_C zr_197_51 (Or.inl rfl) zm_144 rfl rfl ⟨Nat.le_of_ble_eq_true rfl, Nat.le_of_ble_eq_true rfl, Nat.le_of_ble_eq_true rfl, rfl, by decide⟩ (by omega) (P := (fun v m' => zW E (d) 197 54 [(2, 69), (0, a0), (0, a1), (0, i1), (0, i2), (9, 0)] (if v.1 = 9 then [] else v :: []) m' Q)) ?_ (fun _ _ h => h)
            generalize hQ1 : (fun v m' => zW E (d) 197 54 [(2, 69), (0, a0), (0, a1), (0, i1), (0, i2), (9, 0)] (if v.1 = 9 then [] else v :: []) m' Q) = Q1
            show zW E (d - 1) 144 0 [(2, 69), (0, i2), (0, 1)] [] m0 Q1
            refine zw_7 zr_144_0 rfl ?_
            refine zw_46r (s := 70) zr_144_1 rfl rfl rfl rfl ?_
            refine zw_push zr_144_4 ?_
            refine zw_push zr_144_6 ?_
            refine zw_3 zr_144_8 rfl ?_
            refine zw_18 zr_144_9 (by omega) ?_
            refine zw_16 zr_144_10 (by omega) ?_
            refine zw_3 zr_144_11 rfl ?_
            refine zw_16 zr_144_12 (by omega) ?_
            refine zw_48k (c := 70) (len := 826) zr_144_13 rfl rfl (by omega) (by omega) rfl ex10.symm ?_
            refine zw_R zr_144_14 (by decide) zm_144 (v := (0, x10)) rfl ?_
            rw [← hQ1]
            show zW E (d) 197 54 [(2, 69), (0, a0), (0, a1), (0, i1), (0, i2), (9, 0)] [(0, x10)] m0 Q
            refine zw_3 zr_197_54 rfl ?_
            refine zw_41_4 zr_197_55 ?_ ?_
            · intro h42
              refine zw_push zr_197_83 ?_
              refine zw_10 (L' := [(2, 69), (0, a0), (0, a1), (0, i1), (0, i2), (0, 0)]) zr_197_84 (Nat.le_of_ble_eq_true rfl) rfl ?_
              refine zw_3 zr_197_86 rfl ?_
              refine zw_40_4 zr_197_87 ?_ ?_
              · intro h43
                refine zw_push zr_197_105 ?_
                refine zw_42 zr_197_106 ?_
                refine zw_9 (L' := [(2, 69), (0, a0), (0, a1), (0, 1), (0, i2), (0, 0)]) zr_197_110 (Nat.le_of_ble_eq_true rfl) rfl ?_
                refine zw_15 (c := 1) (L' := [(2, 69), (0, a0), (0, a1), (0, 1), (0, (i2 + 1)), (0, 0)]) zr_197_111 rfl (by decide) (by omega) rfl ?_
                refine zw_42 zr_197_114 ?_
                exact zw_less (L := [(2, 69), (0, a0), (0, a1), (0, 1), (0, (i2 + 1)), (9, 0)]) ⟨Or.inr rfl, Or.inr rfl, Or.inr rfl, Or.inr rfl, Or.inr rfl, Or.inl rfl, trivial⟩ (ihlp5_3 (1) ((i2 + 1))  (by omega) (by omega) (by omega) (by omega) (by omega) (by omega) (by omega))
              · intro h44
                refine zw_4 zr_197_90 rfl ?_
                refine zw_40_1 zr_197_92 ?_ ?_
                · intro h45
                  refine zw_push zr_197_109 ?_
                  refine zw_9 (L' := [(2, 69), (0, a0), (0, a1), (0, 0), (0, i2), (0, 0)]) zr_197_110 (Nat.le_of_ble_eq_true rfl) rfl ?_
                  refine zw_15 (c := 1) (L' := [(2, 69), (0, a0), (0, a1), (0, 0), (0, (i2 + 1)), (0, 0)]) zr_197_111 rfl (by decide) (by omega) rfl ?_
                  refine zw_42 zr_197_114 ?_
                  exact zw_less (L := [(2, 69), (0, a0), (0, a1), (0, 0), (0, (i2 + 1)), (9, 0)]) ⟨Or.inr rfl, Or.inr rfl, Or.inr rfl, Or.inr rfl, Or.inr rfl, Or.inl rfl, trivial⟩ (ihlp5_3 (0) ((i2 + 1))  (by omega) (by omega) (by omega) (by omega) (by omega) (by omega) (by omega))
                · intro h46; omega
            · intro h47
              refine zw_7 zr_197_58 rfl ?_
              refine zw_4 zr_197_59 rfl ?_
              refine zw_push zr_197_61 ?_
              refine zw_C zr_197_62 (Or.inl rfl) zm_144 rfl rfl ⟨Nat.le_of_ble_eq_true rfl, Nat.le_of_ble_eq_true rfl, Nat.le_of_ble_eq_true rfl, rfl, by decide⟩ (by omega) (P := (fun v m' => zW E (d) 197 65 [(2, 69), (0, a0), (0, a1), (0, i1), (0, i2), (9, 0)] (if v.1 = 9 then [] else v :: []) m' Q)) ?_ (fun _ _ h => h)
              generalize hQ1 : (fun v m' => zW E (d) 197 65 [(2, 69), (0, a0), (0, a1), (0, i1), (0, i2), (9, 0)] (if v.1 = 9 then [] else v :: []) m' Q) = Q1
              show zW E (d - 1) 144 0 [(2, 69), (0, i2), (0, 2)] [] m0 Q1
              refine zw_7 zr_144_0 rfl ?_
              refine zw_46r (s := 70) zr_144_1 rfl rfl rfl rfl ?_
              refine zw_push zr_144_4 ?_
              refine zw_push zr_144_6 ?_
              refine zw_3 zr_144_8 rfl ?_
              refine zw_18 zr_144_9 (by omega) ?_
              refine zw_16 zr_144_10 (by omega) ?_
              refine zw_3 zr_144_11 rfl ?_
              refine zw_16 zr_144_12 (by omega) ?_
              refine zw_48k (c := 70) (len := 826) zr_144_13 rfl rfl (by omega) (by omega) rfl ex40.symm ?_
              refine zw_R zr_144_14 (by decide) zm_144 (v := (0, x40)) rfl ?_
              rw [← hQ1]
              show zW E (d) 197 65 [(2, 69), (0, a0), (0, a1), (0, i1), (0, i2), (9, 0)] [(0, x40)] m0 Q
              refine zw_3 zr_197_65 rfl ?_
              refine zw_41_4 zr_197_66 ?_ ?_
              · intro h48
                refine zw_push zr_197_83 ?_
                refine zw_10 (L' := [(2, 69), (0, a0), (0, a1), (0, i1), (0, i2), (0, 0)]) zr_197_84 (Nat.le_of_ble_eq_true rfl) rfl ?_
                refine zw_3 zr_197_86 rfl ?_
                refine zw_40_4 zr_197_87 ?_ ?_
                · intro h49
                  refine zw_push zr_197_105 ?_
                  refine zw_42 zr_197_106 ?_
                  refine zw_9 (L' := [(2, 69), (0, a0), (0, a1), (0, 1), (0, i2), (0, 0)]) zr_197_110 (Nat.le_of_ble_eq_true rfl) rfl ?_
                  refine zw_15 (c := 1) (L' := [(2, 69), (0, a0), (0, a1), (0, 1), (0, (i2 + 1)), (0, 0)]) zr_197_111 rfl (by decide) (by omega) rfl ?_
                  refine zw_42 zr_197_114 ?_
                  exact zw_less (L := [(2, 69), (0, a0), (0, a1), (0, 1), (0, (i2 + 1)), (9, 0)]) ⟨Or.inr rfl, Or.inr rfl, Or.inr rfl, Or.inr rfl, Or.inr rfl, Or.inl rfl, trivial⟩ (ihlp5_3 (1) ((i2 + 1))  (by omega) (by omega) (by omega) (by omega) (by omega) (by omega) (by omega))
                · intro h50
                  refine zw_4 zr_197_90 rfl ?_
                  refine zw_40_1 zr_197_92 ?_ ?_
                  · intro h51
                    refine zw_push zr_197_109 ?_
                    refine zw_9 (L' := [(2, 69), (0, a0), (0, a1), (0, 0), (0, i2), (0, 0)]) zr_197_110 (Nat.le_of_ble_eq_true rfl) rfl ?_
                    refine zw_15 (c := 1) (L' := [(2, 69), (0, a0), (0, a1), (0, 0), (0, (i2 + 1)), (0, 0)]) zr_197_111 rfl (by decide) (by omega) rfl ?_
                    refine zw_42 zr_197_114 ?_
                    exact zw_less (L := [(2, 69), (0, a0), (0, a1), (0, 0), (0, (i2 + 1)), (9, 0)]) ⟨Or.inr rfl, Or.inr rfl, Or.inr rfl, Or.inr rfl, Or.inr rfl, Or.inl rfl, trivial⟩ (ihlp5_3 (0) ((i2 + 1))  (by omega) (by omega) (by omega) (by omega) (by omega) (by omega) (by omega))
                  · intro h52; omega
              · intro h53
                refine zw_7 zr_197_69 rfl ?_
                refine zw_4 zr_197_70 rfl ?_
                refine zw_push zr_197_72 ?_
                refine zw_C zr_197_73 (Or.inl rfl) zm_144 rfl rfl ⟨Nat.le_of_ble_eq_true rfl, Nat.le_of_ble_eq_true rfl, Nat.le_of_ble_eq_true rfl, rfl, by decide⟩ (by omega) (P := (fun v m' => zW E (d) 197 76 [(2, 69), (0, a0), (0, a1), (0, i1), (0, i2), (9, 0)] (if v.1 = 9 then [] else v :: []) m' Q)) ?_ (fun _ _ h => h)
                generalize hQ1 : (fun v m' => zW E (d) 197 76 [(2, 69), (0, a0), (0, a1), (0, i1), (0, i2), (9, 0)] (if v.1 = 9 then [] else v :: []) m' Q) = Q1
                show zW E (d - 1) 144 0 [(2, 69), (0, i2), (0, 3)] [] m0 Q1
                refine zw_7 zr_144_0 rfl ?_
                refine zw_46r (s := 70) zr_144_1 rfl rfl rfl rfl ?_
                refine zw_push zr_144_4 ?_
                refine zw_push zr_144_6 ?_
                refine zw_3 zr_144_8 rfl ?_
                refine zw_18 zr_144_9 (by omega) ?_
                refine zw_16 zr_144_10 (by omega) ?_
                refine zw_3 zr_144_11 rfl ?_
                refine zw_16 zr_144_12 (by omega) ?_
                refine zw_48 (c := 70) (len := 826) zr_144_13 rfl rfl (by omega) (by omega) ?_
                intro x54 ex54
                have bx54 := ib_70_m3 hI0 (k := (((90 + (6 * i2)) + 3)).toNat) (by omega)
                rw [← ex54] at bx54
                have qx54 : x54 = F70 (((90 + (6 * i2)) + 3)).toNat := by rw [← hG70]; exact ex54
                refine zw_R zr_144_14 (by decide) zm_144 (v := (0, x54)) rfl ?_
                rw [← hQ1]
                show zW E (d) 197 76 [(2, 69), (0, a0), (0, a1), (0, i1), (0, i2), (9, 0)] [(0, x54)] m0 Q
                refine zw_40_4 zr_197_76 ?_ ?_
                · intro h55
                  refine zw_push zr_197_83 ?_
                  refine zw_10 (L' := [(2, 69), (0, a0), (0, a1), (0, i1), (0, i2), (0, 0)]) zr_197_84 (Nat.le_of_ble_eq_true rfl) rfl ?_
                  refine zw_3 zr_197_86 rfl ?_
                  refine zw_40_4 zr_197_87 ?_ ?_
                  · intro h56
                    refine zw_push zr_197_105 ?_
                    refine zw_42 zr_197_106 ?_
                    refine zw_9 (L' := [(2, 69), (0, a0), (0, a1), (0, 1), (0, i2), (0, 0)]) zr_197_110 (Nat.le_of_ble_eq_true rfl) rfl ?_
                    refine zw_15 (c := 1) (L' := [(2, 69), (0, a0), (0, a1), (0, 1), (0, (i2 + 1)), (0, 0)]) zr_197_111 rfl (by decide) (by omega) rfl ?_
                    refine zw_42 zr_197_114 ?_
                    exact zw_less (L := [(2, 69), (0, a0), (0, a1), (0, 1), (0, (i2 + 1)), (9, 0)]) ⟨Or.inr rfl, Or.inr rfl, Or.inr rfl, Or.inr rfl, Or.inr rfl, Or.inl rfl, trivial⟩ (ihlp5_3 (1) ((i2 + 1))  (by omega) (by omega) (by omega) (by omega) (by omega) (by omega) (by omega))
                  · intro h57
                    refine zw_4 zr_197_90 rfl ?_
                    refine zw_40_1 zr_197_92 ?_ ?_
                    · intro h58
                      refine zw_push zr_197_109 ?_
                      refine zw_9 (L' := [(2, 69), (0, a0), (0, a1), (0, 0), (0, i2), (0, 0)]) zr_197_110 (Nat.le_of_ble_eq_true rfl) rfl ?_
                      refine zw_15 (c := 1) (L' := [(2, 69), (0, a0), (0, a1), (0, 0), (0, (i2 + 1)), (0, 0)]) zr_197_111 rfl (by decide) (by omega) rfl ?_
                      refine zw_42 zr_197_114 ?_
                      exact zw_less (L := [(2, 69), (0, a0), (0, a1), (0, 0), (0, (i2 + 1)), (9, 0)]) ⟨Or.inr rfl, Or.inr rfl, Or.inr rfl, Or.inr rfl, Or.inr rfl, Or.inl rfl, trivial⟩ (ihlp5_3 (0) ((i2 + 1))  (by omega) (by omega) (by omega) (by omega) (by omega) (by omega) (by omega))
                    · intro h59; omega
                · intro h60
                  refine zw_push zr_197_79 ?_
                  refine zw_42 zr_197_80 ?_
                  refine zw_10 (L' := [(2, 69), (0, a0), (0, a1), (0, i1), (0, i2), (0, 1)]) zr_197_84 (Nat.le_of_ble_eq_true rfl) rfl ?_
                  refine zw_3 zr_197_86 rfl ?_
                  refine zw_40_4 zr_197_87 ?_ ?_
                  · intro h61
                    refine zw_push zr_197_105 ?_
                    refine zw_42 zr_197_106 ?_
                    refine zw_9 (L' := [(2, 69), (0, a0), (0, a1), (0, 1), (0, i2), (0, 1)]) zr_197_110 (Nat.le_of_ble_eq_true rfl) rfl ?_
                    refine zw_15 (c := 1) (L' := [(2, 69), (0, a0), (0, a1), (0, 1), (0, (i2 + 1)), (0, 1)]) zr_197_111 rfl (by decide) (by omega) rfl ?_
                    refine zw_42 zr_197_114 ?_
                    exact zw_less (L := [(2, 69), (0, a0), (0, a1), (0, 1), (0, (i2 + 1)), (9, 0)]) ⟨Or.inr rfl, Or.inr rfl, Or.inr rfl, Or.inr rfl, Or.inr rfl, Or.inl rfl, trivial⟩ (ihlp5_3 (1) ((i2 + 1))  (by omega) (by omega) (by omega) (by omega) (by omega) (by omega) (by omega))
                  · intro h62
                    refine zw_4 zr_197_90 rfl ?_
                    refine zw_40_1 zr_197_92 ?_ ?_
                    · intro h63; omega
                    · intro h64
                      refine zw_7 zr_197_95 rfl ?_
                      refine zw_4 zr_197_96 rfl ?_
                      refine zw_push zr_197_98 ?_
                      refine zw_C zr_197_99 (Or.inl rfl) zm_144 rfl rfl ⟨Nat.le_of_ble_eq_true rfl, Nat.le_of_ble_eq_true rfl, Nat.le_of_ble_eq_true rfl, rfl, by decide⟩ (by omega) (P := (fun v m' => zW E (d) 197 102 [(2, 69), (0, a0), (0, a1), (0, i1), (0, i2), (0, 1)] (if v.1 = 9 then [] else v :: []) m' Q)) ?_ (fun _ _ h => h)
                      generalize hQ1 : (fun v m' => zW E (d) 197 102 [(2, 69), (0, a0), (0, a1), (0, i1), (0, i2), (0, 1)] (if v.1 = 9 then [] else v :: []) m' Q) = Q1
                      show zW E (d - 1) 144 0 [(2, 69), (0, i2), (0, 4)] [] m0 Q1
                      refine zw_7 zr_144_0 rfl ?_
                      refine zw_46r (s := 70) zr_144_1 rfl rfl rfl rfl ?_
                      refine zw_push zr_144_4 ?_
                      refine zw_push zr_144_6 ?_
                      refine zw_3 zr_144_8 rfl ?_
                      refine zw_18 zr_144_9 (by omega) ?_
                      refine zw_16 zr_144_10 (by omega) ?_
                      refine zw_3 zr_144_11 rfl ?_
                      refine zw_16 zr_144_12 (by omega) ?_
                      refine zw_48 (c := 70) (len := 826) zr_144_13 rfl rfl (by omega) (by omega) ?_
                      intro x65 ex65
                      have bx65 := ib_70_m4 hI0 (k := (((90 + (6 * i2)) + 4)).toNat) (by omega)
                      rw [← ex65] at bx65
                      have qx65 : x65 = F70 (((90 + (6 * i2)) + 4)).toNat := by rw [← hG70]; exact ex65
                      refine zw_R zr_144_14 (by decide) zm_144 (v := (0, x65)) rfl ?_
                      rw [← hQ1]
                      show zW E (d) 197 102 [(2, 69), (0, a0), (0, a1), (0, i1), (0, i2), (0, 1)] [(0, x65)] m0 Q
                      refine zw_40_4 zr_197_102 ?_ ?_
                      · intro h66
                        refine zw_push zr_197_109 ?_
                        refine zw_9 (L' := [(2, 69), (0, a0), (0, a1), (0, 0), (0, i2), (0, 1)]) zr_197_110 (Nat.le_of_ble_eq_true rfl) rfl ?_
                        refine zw_15 (c := 1) (L' := [(2, 69), (0, a0), (0, a1), (0, 0), (0, (i2 + 1)), (0, 1)]) zr_197_111 rfl (by decide) (by omega) rfl ?_
                        refine zw_42 zr_197_114 ?_
                        exact zw_less (L := [(2, 69), (0, a0), (0, a1), (0, 0), (0, (i2 + 1)), (9, 0)]) ⟨Or.inr rfl, Or.inr rfl, Or.inr rfl, Or.inr rfl, Or.inr rfl, Or.inl rfl, trivial⟩ (ihlp5_3 (0) ((i2 + 1))  (by omega) (by omega) (by omega) (by omega) (by omega) (by omega) (by omega))
                      · intro h67
                        refine zw_push zr_197_105 ?_
                        refine zw_42 zr_197_106 ?_
                        refine zw_9 (L' := [(2, 69), (0, a0), (0, a1), (0, 1), (0, i2), (0, 1)]) zr_197_110 (Nat.le_of_ble_eq_true rfl) rfl ?_
                        refine zw_15 (c := 1) (L' := [(2, 69), (0, a0), (0, a1), (0, 1), (0, (i2 + 1)), (0, 1)]) zr_197_111 rfl (by decide) (by omega) rfl ?_
                        refine zw_42 zr_197_114 ?_
                        exact zw_less (L := [(2, 69), (0, a0), (0, a1), (0, 1), (0, (i2 + 1)), (9, 0)]) ⟨Or.inr rfl, Or.inr rfl, Or.inr rfl, Or.inr rfl, Or.inr rfl, Or.inl rfl, trivial⟩ (ihlp5_3 (1) ((i2 + 1))  (by omega) (by omega) (by omega) (by omega) (by omega) (by omega) (by omega))
          · intro h68
            refine zw_7 zr_197_36 rfl ?_
            refine zw_4 zr_197_37 rfl ?_
            refine zw_push zr_197_39 ?_
            refine zw_C zr_197_40 (Or.inl rfl) zm_144 rfl rfl ⟨Nat.le_of_ble_eq_true rfl, Nat.le_of_ble_eq_true rfl, Nat.le_of_ble_eq_true rfl, rfl, by decide⟩ (by omega) (P := (fun v m' => zW E (d) 197 43 [(2, 69), (0, a0), (0, a1), (0, i1), (0, i2), (9, 0)] (if v.1 = 9 then [] else v :: []) m' Q)) ?_ (fun _ _ h => h)
            generalize hQ1 : (fun v m' => zW E (d) 197 43 [(2, 69), (0, a0), (0, a1), (0, i1), (0, i2), (9, 0)] (if v.1 = 9 then [] else v :: []) m' Q) = Q1
            show zW E (d - 1) 144 0 [(2, 69), (0, i2), (0, 3)] [] m0 Q1
            refine zw_7 zr_144_0 rfl ?_
            refine zw_46r (s := 70) zr_144_1 rfl rfl rfl rfl ?_
            refine zw_push zr_144_4 ?_
            refine zw_push zr_144_6 ?_
            refine zw_3 zr_144_8 rfl ?_
            refine zw_18 zr_144_9 (by omega) ?_
            refine zw_16 zr_144_10 (by omega) ?_
            refine zw_3 zr_144_11 rfl ?_
            refine zw_16 zr_144_12 (by omega) ?_
            refine zw_48 (c := 70) (len := 826) zr_144_13 rfl rfl (by omega) (by omega) ?_
            intro x69 ex69
            have bx69 := ib_70_m3 hI0 (k := (((90 + (6 * i2)) + 3)).toNat) (by omega)
            rw [← ex69] at bx69
            have qx69 : x69 = F70 (((90 + (6 * i2)) + 3)).toNat := by rw [← hG70]; exact ex69
            refine zw_R zr_144_14 (by decide) zm_144 (v := (0, x69)) rfl ?_
            rw [← hQ1]
            show zW E (d) 197 43 [(2, 69), (0, a0), (0, a1), (0, i1), (0, i2), (9, 0)] [(0, x69)] m0 Q
            refine zw_push zr_197_43 ?_
            refine zw_41_1 zr_197_44 ?_ ?_
            · intro h70
              refine zw_push zr_197_79 ?_
              refine zw_42 zr_197_80 ?_
              refine zw_10 (L' := [(2, 69), (0, a0), (0, a1), (0, i1), (0, i2), (0, 1)]) zr_197_84 (Nat.le_of_ble_eq_true rfl) rfl ?_
              refine zw_3 zr_197_86 rfl ?_
              refine zw_40_4 zr_197_87 ?_ ?_
              · intro h71
                refine zw_push zr_197_105 ?_
                refine zw_42 zr_197_106 ?_
                refine zw_9 (L' := [(2, 69), (0, a0), (0, a1), (0, 1), (0, i2), (0, 1)]) zr_197_110 (Nat.le_of_ble_eq_true rfl) rfl ?_
                refine zw_15 (c := 1) (L' := [(2, 69), (0, a0), (0, a1), (0, 1), (0, (i2 + 1)), (0, 1)]) zr_197_111 rfl (by decide) (by omega) rfl ?_
                refine zw_42 zr_197_114 ?_
                exact zw_less (L := [(2, 69), (0, a0), (0, a1), (0, 1), (0, (i2 + 1)), (9, 0)]) ⟨Or.inr rfl, Or.inr rfl, Or.inr rfl, Or.inr rfl, Or.inr rfl, Or.inl rfl, trivial⟩ (ihlp5_3 (1) ((i2 + 1))  (by omega) (by omega) (by omega) (by omega) (by omega) (by omega) (by omega))
              · intro h72
                refine zw_4 zr_197_90 rfl ?_
                refine zw_40_1 zr_197_92 ?_ ?_
                · intro h73; omega
                · intro h74
                  refine zw_7 zr_197_95 rfl ?_
                  refine zw_4 zr_197_96 rfl ?_
                  refine zw_push zr_197_98 ?_
                  refine zw_C zr_197_99 (Or.inl rfl) zm_144 rfl rfl ⟨Nat.le_of_ble_eq_true rfl, Nat.le_of_ble_eq_true rfl, Nat.le_of_ble_eq_true rfl, rfl, by decide⟩ (by omega) (P := (fun v m' => zW E (d) 197 102 [(2, 69), (0, a0), (0, a1), (0, i1), (0, i2), (0, 1)] (if v.1 = 9 then [] else v :: []) m' Q)) ?_ (fun _ _ h => h)
                  generalize hQ1 : (fun v m' => zW E (d) 197 102 [(2, 69), (0, a0), (0, a1), (0, i1), (0, i2), (0, 1)] (if v.1 = 9 then [] else v :: []) m' Q) = Q1
                  show zW E (d - 1) 144 0 [(2, 69), (0, i2), (0, 4)] [] m0 Q1
                  refine zw_7 zr_144_0 rfl ?_
                  refine zw_46r (s := 70) zr_144_1 rfl rfl rfl rfl ?_
                  refine zw_push zr_144_4 ?_
                  refine zw_push zr_144_6 ?_
                  refine zw_3 zr_144_8 rfl ?_
                  refine zw_18 zr_144_9 (by omega) ?_
                  refine zw_16 zr_144_10 (by omega) ?_
                  refine zw_3 zr_144_11 rfl ?_
                  refine zw_16 zr_144_12 (by omega) ?_
                  refine zw_48 (c := 70) (len := 826) zr_144_13 rfl rfl (by omega) (by omega) ?_
                  intro x75 ex75
                  have bx75 := ib_70_m4 hI0 (k := (((90 + (6 * i2)) + 4)).toNat) (by omega)
                  rw [← ex75] at bx75
                  have qx75 : x75 = F70 (((90 + (6 * i2)) + 4)).toNat := by rw [← hG70]; exact ex75
                  refine zw_R zr_144_14 (by decide) zm_144 (v := (0, x75)) rfl ?_
                  rw [← hQ1]
                  show zW E (d) 197 102 [(2, 69), (0, a0), (0, a1), (0, i1), (0, i2), (0, 1)] [(0, x75)] m0 Q
                  refine zw_40_4 zr_197_102 ?_ ?_
                  · intro h76
                    refine zw_push zr_197_109 ?_
                    refine zw_9 (L' := [(2, 69), (0, a0), (0, a1), (0, 0), (0, i2), (0, 1)]) zr_197_110 (Nat.le_of_ble_eq_true rfl) rfl ?_
                    refine zw_15 (c := 1) (L' := [(2, 69), (0, a0), (0, a1), (0, 0), (0, (i2 + 1)), (0, 1)]) zr_197_111 rfl (by decide) (by omega) rfl ?_
                    refine zw_42 zr_197_114 ?_
                    exact zw_less (L := [(2, 69), (0, a0), (0, a1), (0, 0), (0, (i2 + 1)), (9, 0)]) ⟨Or.inr rfl, Or.inr rfl, Or.inr rfl, Or.inr rfl, Or.inr rfl, Or.inl rfl, trivial⟩ (ihlp5_3 (0) ((i2 + 1))  (by omega) (by omega) (by omega) (by omega) (by omega) (by omega) (by omega))
                  · intro h77
                    refine zw_push zr_197_105 ?_
                    refine zw_42 zr_197_106 ?_
                    refine zw_9 (L' := [(2, 69), (0, a0), (0, a1), (0, 1), (0, i2), (0, 1)]) zr_197_110 (Nat.le_of_ble_eq_true rfl) rfl ?_
                    refine zw_15 (c := 1) (L' := [(2, 69), (0, a0), (0, a1), (0, 1), (0, (i2 + 1)), (0, 1)]) zr_197_111 rfl (by decide) (by omega) rfl ?_
                    refine zw_42 zr_197_114 ?_
                    exact zw_less (L := [(2, 69), (0, a0), (0, a1), (0, 1), (0, (i2 + 1)), (9, 0)]) ⟨Or.inr rfl, Or.inr rfl, Or.inr rfl, Or.inr rfl, Or.inr rfl, Or.inl rfl, trivial⟩ (ihlp5_3 (1) ((i2 + 1))  (by omega) (by omega) (by omega) (by omega) (by omega) (by omega) (by omega))
            · intro h78
              refine zw_7 zr_197_47 rfl ?_
              refine zw_4 zr_197_48 rfl ?_
              refine zw_push zr_197_50 ?_
              refine zw_C zr_197_51 (Or.inl rfl) zm_144 rfl rfl ⟨Nat.le_of_ble_eq_true rfl, Nat.le_of_ble_eq_true rfl, Nat.le_of_ble_eq_true rfl, rfl, by decide⟩ (by omega) (P := (fun v m' => zW E (d) 197 54 [(2, 69), (0, a0), (0, a1), (0, i1), (0, i2), (9, 0)] (if v.1 = 9 then [] else v :: []) m' Q)) ?_ (fun _ _ h => h)
              generalize hQ1 : (fun v m' => zW E (d) 197 54 [(2, 69), (0, a0), (0, a1), (0, i1), (0, i2), (9, 0)] (if v.1 = 9 then [] else v :: []) m' Q) = Q1
              show zW E (d - 1) 144 0 [(2, 69), (0, i2), (0, 1)] [] m0 Q1
              refine zw_7 zr_144_0 rfl ?_
              refine zw_46r (s := 70) zr_144_1 rfl rfl rfl rfl ?_
              refine zw_push zr_144_4 ?_
              refine zw_push zr_144_6 ?_
              refine zw_3 zr_144_8 rfl ?_
              refine zw_18 zr_144_9 (by omega) ?_
              refine zw_16 zr_144_10 (by omega) ?_
              refine zw_3 zr_144_11 rfl ?_
              refine zw_16 zr_144_12 (by omega) ?_
              refine zw_48k (c := 70) (len := 826) zr_144_13 rfl rfl (by omega) (by omega) rfl ex10.symm ?_
              refine zw_R zr_144_14 (by decide) zm_144 (v := (0, x10)) rfl ?_
              rw [← hQ1]
              show zW E (d) 197 54 [(2, 69), (0, a0), (0, a1), (0, i1), (0, i2), (9, 0)] [(0, x10)] m0 Q
              refine zw_3 zr_197_54 rfl ?_
              refine zw_41_4 zr_197_55 ?_ ?_
              · intro h79
                refine zw_push zr_197_83 ?_
                refine zw_10 (L' := [(2, 69), (0, a0), (0, a1), (0, i1), (0, i2), (0, 0)]) zr_197_84 (Nat.le_of_ble_eq_true rfl) rfl ?_
                refine zw_3 zr_197_86 rfl ?_
                refine zw_40_4 zr_197_87 ?_ ?_
                · intro h80
                  refine zw_push zr_197_105 ?_
                  refine zw_42 zr_197_106 ?_
                  refine zw_9 (L' := [(2, 69), (0, a0), (0, a1), (0, 1), (0, i2), (0, 0)]) zr_197_110 (Nat.le_of_ble_eq_true rfl) rfl ?_
                  refine zw_15 (c := 1) (L' := [(2, 69), (0, a0), (0, a1), (0, 1), (0, (i2 + 1)), (0, 0)]) zr_197_111 rfl (by decide) (by omega) rfl ?_
                  refine zw_42 zr_197_114 ?_
                  exact zw_less (L := [(2, 69), (0, a0), (0, a1), (0, 1), (0, (i2 + 1)), (9, 0)]) ⟨Or.inr rfl, Or.inr rfl, Or.inr rfl, Or.inr rfl, Or.inr rfl, Or.inl rfl, trivial⟩ (ihlp5_3 (1) ((i2 + 1))  (by omega) (by omega) (by omega) (by omega) (by omega) (by omega) (by omega))
                · intro h81
                  refine zw_4 zr_197_90 rfl ?_
                  refine zw_40_1 zr_197_92 ?_ ?_
                  · intro h82
                    refine zw_push zr_197_109 ?_
                    refine zw_9 (L' := [(2, 69), (0, a0), (0, a1), (0, 0), (0, i2), (0, 0)]) zr_197_110 (Nat.le_of_ble_eq_true rfl) rfl ?_
                    refine zw_15 (c := 1) (L' := [(2, 69), (0, a0), (0, a1), (0, 0), (0, (i2 + 1)), (0, 0)]) zr_197_111 rfl (by decide) (by omega) rfl ?_
                    refine zw_42 zr_197_114 ?_
                    exact zw_less (L := [(2, 69), (0, a0), (0, a1), (0, 0), (0, (i2 + 1)), (9, 0)]) ⟨Or.inr rfl, Or.inr rfl, Or.inr rfl, Or.inr rfl, Or.inr rfl, Or.inl rfl, trivial⟩ (ihlp5_3 (0) ((i2 + 1))  (by omega) (by omega) (by omega) (by omega) (by omega) (by omega) (by omega))
                  · intro h83; omega
              · intro h84
                refine zw_7 zr_197_58 rfl ?_
                refine zw_4 zr_197_59 rfl ?_
                refine zw_push zr_197_61 ?_
                refine zw_C zr_197_62 (Or.inl rfl) zm_144 rfl rfl ⟨Nat.le_of_ble_eq_true rfl, Nat.le_of_ble_eq_true rfl, Nat.le_of_ble_eq_true rfl, rfl, by decide⟩ (by omega) (P := (fun v m' => zW E (d) 197 65 [(2, 69), (0, a0), (0, a1), (0, i1), (0, i2), (9, 0)] (if v.1 = 9 then [] else v :: []) m' Q)) ?_ (fun _ _ h => h)
                generalize hQ1 : (fun v m' => zW E (d) 197 65 [(2, 69), (0, a0), (0, a1), (0, i1), (0, i2), (9, 0)] (if v.1 = 9 then [] else v :: []) m' Q) = Q1
                show zW E (d - 1) 144 0 [(2, 69), (0, i2), (0, 2)] [] m0 Q1
                refine zw_7 zr_144_0 rfl ?_
                refine zw_46r (s := 70) zr_144_1 rfl rfl rfl rfl ?_
                refine zw_push zr_144_4 ?_
                refine zw_push zr_144_6 ?_
                refine zw_3 zr_144_8 rfl ?_
                refine zw_18 zr_144_9 (by omega) ?_
                refine zw_16 zr_144_10 (by omega) ?_
                refine zw_3 zr_144_11 rfl ?_
                refine zw_16 zr_144_12 (by omega) ?_
                refine zw_48k (c := 70) (len := 826) zr_144_13 rfl rfl (by omega) (by omega) rfl ex40.symm ?_
                refine zw_R zr_144_14 (by decide) zm_144 (v := (0, x40)) rfl ?_
                rw [← hQ1]
                show zW E (d) 197 65 [(2, 69), (0, a0), (0, a1), (0, i1), (0, i2), (9, 0)] [(0, x40)] m0 Q
                refine zw_3 zr_197_65 rfl ?_
                refine zw_41_4 zr_197_66 ?_ ?_
                · intro h85
                  refine zw_push zr_197_83 ?_
                  refine zw_10 (L' := [(2, 69), (0, a0), (0, a1), (0, i1), (0, i2), (0, 0)]) zr_197_84 (Nat.le_of_ble_eq_true rfl) rfl ?_
                  refine zw_3 zr_197_86 rfl ?_
                  refine zw_40_4 zr_197_87 ?_ ?_
                  · intro h86
                    refine zw_push zr_197_105 ?_
                    refine zw_42 zr_197_106 ?_
                    refine zw_9 (L' := [(2, 69), (0, a0), (0, a1), (0, 1), (0, i2), (0, 0)]) zr_197_110 (Nat.le_of_ble_eq_true rfl) rfl ?_
                    refine zw_15 (c := 1) (L' := [(2, 69), (0, a0), (0, a1), (0, 1), (0, (i2 + 1)), (0, 0)]) zr_197_111 rfl (by decide) (by omega) rfl ?_
                    refine zw_42 zr_197_114 ?_
                    exact zw_less (L := [(2, 69), (0, a0), (0, a1), (0, 1), (0, (i2 + 1)), (9, 0)]) ⟨Or.inr rfl, Or.inr rfl, Or.inr rfl, Or.inr rfl, Or.inr rfl, Or.inl rfl, trivial⟩ (ihlp5_3 (1) ((i2 + 1))  (by omega) (by omega) (by omega) (by omega) (by omega) (by omega) (by omega))
                  · intro h87
                    refine zw_4 zr_197_90 rfl ?_
                    refine zw_40_1 zr_197_92 ?_ ?_
                    · intro h88
                      refine zw_push zr_197_109 ?_
                      refine zw_9 (L' := [(2, 69), (0, a0), (0, a1), (0, 0), (0, i2), (0, 0)]) zr_197_110 (Nat.le_of_ble_eq_true rfl) rfl ?_
                      refine zw_15 (c := 1) (L' := [(2, 69), (0, a0), (0, a1), (0, 0), (0, (i2 + 1)), (0, 0)]) zr_197_111 rfl (by decide) (by omega) rfl ?_
                      refine zw_42 zr_197_114 ?_
                      exact zw_less (L := [(2, 69), (0, a0), (0, a1), (0, 0), (0, (i2 + 1)), (9, 0)]) ⟨Or.inr rfl, Or.inr rfl, Or.inr rfl, Or.inr rfl, Or.inr rfl, Or.inl rfl, trivial⟩ (ihlp5_3 (0) ((i2 + 1))  (by omega) (by omega) (by omega) (by omega) (by omega) (by omega) (by omega))
                    · intro h89; omega
                · intro h90
                  refine zw_7 zr_197_69 rfl ?_
                  refine zw_4 zr_197_70 rfl ?_
                  refine zw_push zr_197_72 ?_
                  refine zw_C zr_197_73 (Or.inl rfl) zm_144 rfl rfl ⟨Nat.le_of_ble_eq_true rfl, Nat.le_of_ble_eq_true rfl, Nat.le_of_ble_eq_true rfl, rfl, by decide⟩ (by omega) (P := (fun v m' => zW E (d) 197 76 [(2, 69), (0, a0), (0, a1), (0, i1), (0, i2), (9, 0)] (if v.1 = 9 then [] else v :: []) m' Q)) ?_ (fun _ _ h => h)
                  generalize hQ1 : (fun v m' => zW E (d) 197 76 [(2, 69), (0, a0), (0, a1), (0, i1), (0, i2), (9, 0)] (if v.1 = 9 then [] else v :: []) m' Q) = Q1
                  show zW E (d - 1) 144 0 [(2, 69), (0, i2), (0, 3)] [] m0 Q1
                  refine zw_7 zr_144_0 rfl ?_
                  refine zw_46r (s := 70) zr_144_1 rfl rfl rfl rfl ?_
                  refine zw_push zr_144_4 ?_
                  refine zw_push zr_144_6 ?_
                  refine zw_3 zr_144_8 rfl ?_
                  refine zw_18 zr_144_9 (by omega) ?_
                  refine zw_16 zr_144_10 (by omega) ?_
                  refine zw_3 zr_144_11 rfl ?_
                  refine zw_16 zr_144_12 (by omega) ?_
                  refine zw_48k (c := 70) (len := 826) zr_144_13 rfl rfl (by omega) (by omega) rfl ex69.symm ?_
                  refine zw_R zr_144_14 (by decide) zm_144 (v := (0, x69)) rfl ?_
                  rw [← hQ1]
                  show zW E (d) 197 76 [(2, 69), (0, a0), (0, a1), (0, i1), (0, i2), (9, 0)] [(0, x69)] m0 Q
                  refine zw_40_4 zr_197_76 ?_ ?_
                  · intro h91
                    refine zw_push zr_197_83 ?_
                    refine zw_10 (L' := [(2, 69), (0, a0), (0, a1), (0, i1), (0, i2), (0, 0)]) zr_197_84 (Nat.le_of_ble_eq_true rfl) rfl ?_
                    refine zw_3 zr_197_86 rfl ?_
                    refine zw_40_4 zr_197_87 ?_ ?_
                    · intro h92
                      refine zw_push zr_197_105 ?_
                      refine zw_42 zr_197_106 ?_
                      refine zw_9 (L' := [(2, 69), (0, a0), (0, a1), (0, 1), (0, i2), (0, 0)]) zr_197_110 (Nat.le_of_ble_eq_true rfl) rfl ?_
                      refine zw_15 (c := 1) (L' := [(2, 69), (0, a0), (0, a1), (0, 1), (0, (i2 + 1)), (0, 0)]) zr_197_111 rfl (by decide) (by omega) rfl ?_
                      refine zw_42 zr_197_114 ?_
                      exact zw_less (L := [(2, 69), (0, a0), (0, a1), (0, 1), (0, (i2 + 1)), (9, 0)]) ⟨Or.inr rfl, Or.inr rfl, Or.inr rfl, Or.inr rfl, Or.inr rfl, Or.inl rfl, trivial⟩ (ihlp5_3 (1) ((i2 + 1))  (by omega) (by omega) (by omega) (by omega) (by omega) (by omega) (by omega))
                    · intro h93
                      refine zw_4 zr_197_90 rfl ?_
                      refine zw_40_1 zr_197_92 ?_ ?_
                      · intro h94
                        refine zw_push zr_197_109 ?_
                        refine zw_9 (L' := [(2, 69), (0, a0), (0, a1), (0, 0), (0, i2), (0, 0)]) zr_197_110 (Nat.le_of_ble_eq_true rfl) rfl ?_
                        refine zw_15 (c := 1) (L' := [(2, 69), (0, a0), (0, a1), (0, 0), (0, (i2 + 1)), (0, 0)]) zr_197_111 rfl (by decide) (by omega) rfl ?_
                        refine zw_42 zr_197_114 ?_
                        exact zw_less (L := [(2, 69), (0, a0), (0, a1), (0, 0), (0, (i2 + 1)), (9, 0)]) ⟨Or.inr rfl, Or.inr rfl, Or.inr rfl, Or.inr rfl, Or.inr rfl, Or.inl rfl, trivial⟩ (ihlp5_3 (0) ((i2 + 1))  (by omega) (by omega) (by omega) (by omega) (by omega) (by omega) (by omega))
                      · intro h95; omega
                  · intro h96
                    refine zw_push zr_197_79 ?_
                    refine zw_42 zr_197_80 ?_
                    refine zw_10 (L' := [(2, 69), (0, a0), (0, a1), (0, i1), (0, i2), (0, 1)]) zr_197_84 (Nat.le_of_ble_eq_true rfl) rfl ?_
                    refine zw_3 zr_197_86 rfl ?_
                    refine zw_40_4 zr_197_87 ?_ ?_
                    · intro h97
                      refine zw_push zr_197_105 ?_
                      refine zw_42 zr_197_106 ?_
                      refine zw_9 (L' := [(2, 69), (0, a0), (0, a1), (0, 1), (0, i2), (0, 1)]) zr_197_110 (Nat.le_of_ble_eq_true rfl) rfl ?_
                      refine zw_15 (c := 1) (L' := [(2, 69), (0, a0), (0, a1), (0, 1), (0, (i2 + 1)), (0, 1)]) zr_197_111 rfl (by decide) (by omega) rfl ?_
                      refine zw_42 zr_197_114 ?_
                      exact zw_less (L := [(2, 69), (0, a0), (0, a1), (0, 1), (0, (i2 + 1)), (9, 0)]) ⟨Or.inr rfl, Or.inr rfl, Or.inr rfl, Or.inr rfl, Or.inr rfl, Or.inl rfl, trivial⟩ (ihlp5_3 (1) ((i2 + 1))  (by omega) (by omega) (by omega) (by omega) (by omega) (by omega) (by omega))
                    · intro h98
                      refine zw_4 zr_197_90 rfl ?_
                      refine zw_40_1 zr_197_92 ?_ ?_
                      · intro h99; omega
                      · intro h100
                        refine zw_7 zr_197_95 rfl ?_
                        refine zw_4 zr_197_96 rfl ?_
                        refine zw_push zr_197_98 ?_
                        refine zw_C zr_197_99 (Or.inl rfl) zm_144 rfl rfl ⟨Nat.le_of_ble_eq_true rfl, Nat.le_of_ble_eq_true rfl, Nat.le_of_ble_eq_true rfl, rfl, by decide⟩ (by omega) (P := (fun v m' => zW E (d) 197 102 [(2, 69), (0, a0), (0, a1), (0, i1), (0, i2), (0, 1)] (if v.1 = 9 then [] else v :: []) m' Q)) ?_ (fun _ _ h => h)
                        generalize hQ1 : (fun v m' => zW E (d) 197 102 [(2, 69), (0, a0), (0, a1), (0, i1), (0, i2), (0, 1)] (if v.1 = 9 then [] else v :: []) m' Q) = Q1
                        show zW E (d - 1) 144 0 [(2, 69), (0, i2), (0, 4)] [] m0 Q1
                        refine zw_7 zr_144_0 rfl ?_
                        refine zw_46r (s := 70) zr_144_1 rfl rfl rfl rfl ?_
                        refine zw_push zr_144_4 ?_
                        refine zw_push zr_144_6 ?_
                        refine zw_3 zr_144_8 rfl ?_
                        refine zw_18 zr_144_9 (by omega) ?_
                        refine zw_16 zr_144_10 (by omega) ?_
                        refine zw_3 zr_144_11 rfl ?_
                        refine zw_16 zr_144_12 (by omega) ?_
                        refine zw_48 (c := 70) (len := 826) zr_144_13 rfl rfl (by omega) (by omega) ?_
                        intro x101 ex101
                        have bx101 := ib_70_m4 hI0 (k := (((90 + (6 * i2)) + 4)).toNat) (by omega)
                        rw [← ex101] at bx101
                        have qx101 : x101 = F70 (((90 + (6 * i2)) + 4)).toNat := by rw [← hG70]; exact ex101
                        refine zw_R zr_144_14 (by decide) zm_144 (v := (0, x101)) rfl ?_
                        rw [← hQ1]
                        show zW E (d) 197 102 [(2, 69), (0, a0), (0, a1), (0, i1), (0, i2), (0, 1)] [(0, x101)] m0 Q
                        refine zw_40_4 zr_197_102 ?_ ?_
                        · intro h102
                          refine zw_push zr_197_109 ?_
                          refine zw_9 (L' := [(2, 69), (0, a0), (0, a1), (0, 0), (0, i2), (0, 1)]) zr_197_110 (Nat.le_of_ble_eq_true rfl) rfl ?_
                          refine zw_15 (c := 1) (L' := [(2, 69), (0, a0), (0, a1), (0, 0), (0, (i2 + 1)), (0, 1)]) zr_197_111 rfl (by decide) (by omega) rfl ?_
                          refine zw_42 zr_197_114 ?_
                          exact zw_less (L := [(2, 69), (0, a0), (0, a1), (0, 0), (0, (i2 + 1)), (9, 0)]) ⟨Or.inr rfl, Or.inr rfl, Or.inr rfl, Or.inr rfl, Or.inr rfl, Or.inl rfl, trivial⟩ (ihlp5_3 (0) ((i2 + 1))  (by omega) (by omega) (by omega) (by omega) (by omega) (by omega) (by omega))
                        · intro h103
                          refine zw_push zr_197_105 ?_
                          refine zw_42 zr_197_106 ?_
                          refine zw_9 (L' := [(2, 69), (0, a0), (0, a1), (0, 1), (0, i2), (0, 1)]) zr_197_110 (Nat.le_of_ble_eq_true rfl) rfl ?_
                          refine zw_15 (c := 1) (L' := [(2, 69), (0, a0), (0, a1), (0, 1), (0, (i2 + 1)), (0, 1)]) zr_197_111 rfl (by decide) (by omega) rfl ?_
                          refine zw_42 zr_197_114 ?_
                          exact zw_less (L := [(2, 69), (0, a0), (0, a1), (0, 1), (0, (i2 + 1)), (9, 0)]) ⟨Or.inr rfl, Or.inr rfl, Or.inr rfl, Or.inr rfl, Or.inr rfl, Or.inl rfl, trivial⟩ (ihlp5_3 (1) ((i2 + 1))  (by omega) (by omega) (by omega) (by omega) (by omega) (by omega) (by omega))
  exact lp5_3 _ (0) (0)  (by omega) (by omega) (by omega) (by omega) (by simp only [hbv, Int.toNat_zero]) (by have := ib_70_meetings hI0 (k := 823) rfl; omega) (Nat.lt_succ_self _)

set_option maxHeartbeats 8000000 in
theorem th_198 {E : zE} {d : Nat} {m0 : zM} {g0 : Int} {F70 : Nat → Int} (hd : 3 ≤ d) (hI0 : zInv m0) (hg0 : m0 70 822 = g0) (hG70 : m0 70 = F70) : zC E d 198 [(2, 69)] m0 (fun v m' => ∃ r : Int, v = (0, r) ∧ 0 ≤ r ∧ r ≤ 2000 ∧ m0 = m' ∧ (r = t1 F70 (F70 823).toNat g0.toNat g0.toNat)) := by
  have bg0 : 0 ≤ m0 70 822 ∧ m0 70 822 ≤ 10 := ib_70_players hI0 (by omega)
  rw [hg0] at bg0
  generalize hQ : (fun (v : zV) (m' : zM) => ∃ r : Int, v = (0, r) ∧ 0 ≤ r ∧ r ≤ 2000 ∧ m0 = m' ∧ (r = t1 F70 (F70 823).toNat g0.toNat g0.toNat)) = Q
  show zW E d 198 0 [(2, 69), (9, 0), (9, 0), (9, 0), (9, 0)] [] m0 Q
  refine zw_push zr_198_0 ?_
  refine zw_9 (L' := [(2, 69), (0, 0), (9, 0), (9, 0), (9, 0)]) zr_198_1 (Nat.le_of_ble_eq_true rfl) rfl ?_
  refine zw_push zr_198_2 ?_
  refine zw_9 (L' := [(2, 69), (0, 0), (0, 0), (9, 0), (9, 0)]) zr_198_3 (Nat.le_of_ble_eq_true rfl) rfl ?_
  have lp4_3 : ∀ (nlp4_3 : Nat) (i1 i2 : Int), 0 ≤ i1 → i1 ≤ 2000 → 0 ≤ i2 → i2 ≤ 10 → (i1 = t1 F70 (F70 823).toNat g0.toNat (i2).toNat) → (i1 ≤ 200 * i2 ∧ i2 ≤ g0) → (10 - i2).toNat < nlp4_3 → zW E (d) 198 4 [(2, 69), (0, i1), (0, i2), (9, 0), (9, 0)] [] m0 Q := by
    intro nlp4_3
    induction nlp4_3 with
    | zero =>
      intros
      exact absurd (by assumption : _ < 0) (Nat.not_lt_zero _)
    | succ nlp4_3 ihlp4_3 =>
      intro i1 i2 li1 ui1 li2 ui2 hv0lp4_3 hv1lp4_3 hmlp4_3
      refine zw_3 zr_198_4 rfl ?_
      refine zw_7 zr_198_5 rfl ?_
      refine zw_C zr_198_6 (Or.inl rfl) zm_141 rfl rfl ⟨Nat.le_of_ble_eq_true rfl, Nat.le_of_ble_eq_true rfl, Nat.le_of_ble_eq_true rfl, rfl, by decide⟩ (by omega) (P := (fun v m' => zW E (d) 198 9 [(2, 69), (0, i1), (0, i2), (9, 0), (9, 0)] (if v.1 = 9 then [(0, i2)] else v :: [(0, i2)]) m' Q)) ?_ (fun _ _ h => h)
      generalize hQ1 : (fun v m' => zW E (d) 198 9 [(2, 69), (0, i1), (0, i2), (9, 0), (9, 0)] (if v.1 = 9 then [(0, i2)] else v :: [(0, i2)]) m' Q) = Q1
      show zW E (d - 1) 141 0 [(2, 69)] [] m0 Q1
      refine zw_7 zr_141_0 rfl ?_
      refine zw_46r (s := 70) zr_141_1 rfl rfl rfl rfl ?_
      refine zw_push zr_141_4 ?_
      refine zw_48k (c := 70) (len := 826) zr_141_7 rfl rfl (by omega) (by omega) (show (822 : Int).toNat = 822 by omega) hg0 ?_
      refine zw_R zr_141_8 (by decide) zm_141 (v := (0, g0)) rfl ?_
      rw [← hQ1]
      show zW E (d) 198 9 [(2, 69), (0, i1), (0, i2), (9, 0), (9, 0)] [(0, g0), (0, i2)] m0 Q
      refine zw_41_3 zr_198_9 ?_ ?_
      · intro h5
        have z6 := hv0lp4_3; rw [show (i2).toNat = g0.toNat by omega] at z6
        refine zw_3 zr_198_99 rfl ?_
        refine zw_R zr_198_100 (by decide) zm_198 (v := (0, i1)) rfl ?_
        rw [← hQ]; exact ⟨_, rfl, by omega, by omega, rfl, by omega⟩
      · intro h8
        refine zw_3 zr_198_12 rfl ?_
        refine zw_push zr_198_13 ?_
        refine zw_16 zr_198_14 (by omega) ?_
        refine zw_9 (L' := [(2, 69), (0, i1), (0, i2), (0, (i2 + 1)), (9, 0)]) zr_198_15 (Nat.le_of_ble_eq_true rfl) rfl ?_
        have lp16_11 : ∀ (nlp16_11 : Nat) (i9 i10 : Int), 0 ≤ i9 → i9 ≤ 2000 → 1 ≤ i10 → i10 ≤ 10 → (i9 = t1 F70 (F70 823).toNat g0.toNat (i2).toNat + t2 F70 (F70 823).toNat g0.toNat (i2).toNat (i10).toNat) → (i9 ≤ 200 * i2 + 20 * i10 ∧ i10 ≤ g0 ∧ i2 + 1 ≤ i10) → (10 - i10).toNat < nlp16_11 → zW E (d) 198 16 [(2, 69), (0, i9), (0, i2), (0, i10), (9, 0)] [] m0 Q := by
          intro nlp16_11
          induction nlp16_11 with
          | zero =>
            intros
            exact absurd (by assumption : _ < 0) (Nat.not_lt_zero _)
          | succ nlp16_11 ihlp16_11 =>
            intro i9 i10 li9 ui9 li10 ui10 hv0lp16_11 hv1lp16_11 hmlp16_11
            refine zw_3 zr_198_16 rfl ?_
            refine zw_7 zr_198_17 rfl ?_
            refine zw_C zr_198_18 (Or.inl rfl) zm_141 rfl rfl ⟨Nat.le_of_ble_eq_true rfl, Nat.le_of_ble_eq_true rfl, Nat.le_of_ble_eq_true rfl, rfl, by decide⟩ (by omega) (P := (fun v m' => zW E (d) 198 21 [(2, 69), (0, i9), (0, i2), (0, i10), (9, 0)] (if v.1 = 9 then [(0, i10)] else v :: [(0, i10)]) m' Q)) ?_ (fun _ _ h => h)
            generalize hQ1 : (fun v m' => zW E (d) 198 21 [(2, 69), (0, i9), (0, i2), (0, i10), (9, 0)] (if v.1 = 9 then [(0, i10)] else v :: [(0, i10)]) m' Q) = Q1
            show zW E (d - 1) 141 0 [(2, 69)] [] m0 Q1
            refine zw_7 zr_141_0 rfl ?_
            refine zw_46r (s := 70) zr_141_1 rfl rfl rfl rfl ?_
            refine zw_push zr_141_4 ?_
            refine zw_48k (c := 70) (len := 826) zr_141_7 rfl rfl (by omega) (by omega) (show (822 : Int).toNat = 822 by omega) hg0 ?_
            refine zw_R zr_141_8 (by decide) zm_141 (v := (0, g0)) rfl ?_
            rw [← hQ1]
            show zW E (d) 198 21 [(2, 69), (0, i9), (0, i2), (0, i10), (9, 0)] [(0, g0), (0, i10)] m0 Q
            refine zw_41_3 zr_198_21 ?_ ?_
            · intro h13
              have z14 := hv0lp16_11; rw [show (i10).toNat = g0.toNat by omega] at z14
              have z15 := t1_s F70 (F70 823).toNat g0.toNat (i2) (by omega)
              refine zw_15 (c := 1) (L' := [(2, 69), (0, i9), (0, (i2 + 1)), (0, i10), (9, 0)]) zr_198_93 rfl (by decide) (by omega) rfl ?_
              refine zw_42 zr_198_96 ?_
              exact zw_less (L := [(2, 69), (0, i9), (0, (i2 + 1)), (9, 0), (9, 0)]) ⟨Or.inr rfl, Or.inr rfl, Or.inr rfl, Or.inl rfl, Or.inl rfl, trivial⟩ (ihlp4_3 (i9) ((i2 + 1))  (by omega) (by omega) (by omega) (by omega) (by omega) (by omega) (by omega))
            · intro h16
              refine zw_3 zr_198_24 rfl ?_
              refine zw_push zr_198_25 ?_
              refine zw_16 zr_198_26 (by omega) ?_
              refine zw_10 (L' := [(2, 69), (0, i9), (0, i2), (0, i10), (0, (i2 + 1))]) zr_198_27 (Nat.le_of_ble_eq_true rfl) rfl ?_
              have lp29_19 : ∀ (nlp29_19 : Nat) (i17 i18 : Int), 0 ≤ i17 → i17 ≤ 2000 → 1 ≤ i18 → i18 ≤ 10 → (i17 = t1 F70 (F70 823).toNat g0.toNat (i2).toNat + t2 F70 (F70 823).toNat g0.toNat (i2).toNat (i10).toNat + t3 F70 (F70 823).toNat (i2).toNat (i10).toNat (i18).toNat) → (i17 ≤ 200 * i2 + 20 * i10 + 2 * i18 ∧ i18 ≤ g0 ∧ i2 + 1 ≤ i18) → (10 - i18).toNat < nlp29_19 → zW E (d) 198 29 [(2, 69), (0, i17), (0, i2), (0, i10), (0, i18)] [] m0 Q := by
                intro nlp29_19
                induction nlp29_19 with
                | zero =>
                  intros
                  exact absurd (by assumption : _ < 0) (Nat.not_lt_zero _)
                | succ nlp29_19 ihlp29_19 =>
                  intro i17 i18 li17 ui17 li18 ui18 hv0lp29_19 hv1lp29_19 hmlp29_19
                  refine zw_4 zr_198_29 rfl ?_
                  refine zw_7 zr_198_31 rfl ?_
                  refine zw_C zr_198_32 (Or.inl rfl) zm_141 rfl rfl ⟨Nat.le_of_ble_eq_true rfl, Nat.le_of_ble_eq_true rfl, Nat.le_of_ble_eq_true rfl, rfl, by decide⟩ (by omega) (P := (fun v m' => zW E (d) 198 35 [(2, 69), (0, i17), (0, i2), (0, i10), (0, i18)] (if v.1 = 9 then [(0, i18)] else v :: [(0, i18)]) m' Q)) ?_ (fun _ _ h => h)
                  generalize hQ1 : (fun v m' => zW E (d) 198 35 [(2, 69), (0, i17), (0, i2), (0, i10), (0, i18)] (if v.1 = 9 then [(0, i18)] else v :: [(0, i18)]) m' Q) = Q1
                  show zW E (d - 1) 141 0 [(2, 69)] [] m0 Q1
                  refine zw_7 zr_141_0 rfl ?_
                  refine zw_46r (s := 70) zr_141_1 rfl rfl rfl rfl ?_
                  refine zw_push zr_141_4 ?_
                  refine zw_48k (c := 70) (len := 826) zr_141_7 rfl rfl (by omega) (by omega) (show (822 : Int).toNat = 822 by omega) hg0 ?_
                  refine zw_R zr_141_8 (by decide) zm_141 (v := (0, g0)) rfl ?_
                  rw [← hQ1]
                  show zW E (d) 198 35 [(2, 69), (0, i17), (0, i2), (0, i10), (0, i18)] [(0, g0), (0, i18)] m0 Q
                  refine zw_41_3 zr_198_35 ?_ ?_
                  · intro h21
                    have z22 := hv0lp29_19; rw [show (i18).toNat = g0.toNat by omega] at z22
                    have z23 := t2_s F70 (F70 823).toNat g0.toNat (i2) (i10) (by omega) (by omega)
                    refine zw_15 (c := 1) (L' := [(2, 69), (0, i17), (0, i2), (0, (i10 + 1)), (0, i18)]) zr_198_87 rfl (by decide) (by omega) rfl ?_
                    refine zw_42 zr_198_90 ?_
                    exact zw_less (L := [(2, 69), (0, i17), (0, i2), (0, (i10 + 1)), (9, 0)]) ⟨Or.inr rfl, Or.inr rfl, Or.inr rfl, Or.inr rfl, Or.inl rfl, trivial⟩ (ihlp16_11 (i17) ((i10 + 1))  (by omega) (by omega) (by omega) (by omega) (by omega) (by omega) (by omega))
                  · intro h24
                    refine zw_3 zr_198_38 rfl ?_
                    refine zw_3 zr_198_39 rfl ?_
                    refine zw_4 zr_198_40 rfl ?_
                    refine zw_41_1 zr_198_42 ?_ ?_
                    · intro h25
                      refine zw_push zr_198_78 ?_
                      refine zw_16 zr_198_79 (by omega) ?_
                      refine zw_9 (L' := [(2, 69), (0, (i17 + 0)), (0, i2), (0, i10), (0, i18)]) zr_198_80 (Nat.le_of_ble_eq_true rfl) rfl ?_
                      have z26 := t3_s F70 (F70 823).toNat (i2) (i10) (i18) (by omega) (by omega) (by omega)
                      have z27 := tgv_c F70 (F70 823).toNat (i2) (i10) (i18)
                      refine zw_15 (c := 1) (L' := [(2, 69), (0, (i17 + 0)), (0, i2), (0, i10), (0, (i18 + 1))]) zr_198_81 rfl (by decide) (by omega) rfl ?_
                      refine zw_42 zr_198_84 ?_
                      exact zw_less (L := [(2, 69), (0, (i17 + 0)), (0, i2), (0, i10), (0, (i18 + 1))]) ⟨Or.inr rfl, Or.inr rfl, Or.inr rfl, Or.inr rfl, Or.inr rfl, trivial⟩ (ihlp29_19 ((i17 + 0)) ((i18 + 1))  (by omega) (by omega) (by omega) (by omega) (by omega) (by omega) (by omega))
                    · intro h28
                      refine zw_7 zr_198_45 rfl ?_
                      refine zw_3 zr_198_46 rfl ?_
                      refine zw_3 zr_198_47 rfl ?_
                      refine zw_C zr_198_48 (Or.inl rfl) zm_197 rfl rfl ⟨Nat.le_of_ble_eq_true rfl, Nat.le_of_ble_eq_true rfl, Nat.le_of_ble_eq_true rfl, rfl, by decide⟩ (by omega) (th_197 (d := d - 1) (by omega) hI0 (a0 := i2) (a1 := i10)   (F70 := F70)  hG70 (by omega) (by omega) ) ?_
                      rintro _ _ ⟨r29, rfl, hr29a, hr29b, rfl, po0_r29⟩
                      show zW E (d) 198 51 [(2, 69), (0, i17), (0, i2), (0, i10), (0, i18)] [(0, r29), (0, i17)] m0 Q
                      refine zw_40_1 zr_198_51 ?_ ?_
                      · intro h30
                        refine zw_push zr_198_78 ?_
                        refine zw_16 zr_198_79 (by omega) ?_
                        refine zw_9 (L' := [(2, 69), (0, (i17 + 0)), (0, i2), (0, i10), (0, i18)]) zr_198_80 (Nat.le_of_ble_eq_true rfl) rfl ?_
                        have z31 := t3_s F70 (F70 823).toNat (i2) (i10) (i18) (by omega) (by omega) (by omega)
                        have z32 := tgv_c F70 (F70 823).toNat (i2) (i10) (i18)
                        refine zw_15 (c := 1) (L' := [(2, 69), (0, (i17 + 0)), (0, i2), (0, i10), (0, (i18 + 1))]) zr_198_81 rfl (by decide) (by omega) rfl ?_
                        refine zw_42 zr_198_84 ?_
                        exact zw_less (L := [(2, 69), (0, (i17 + 0)), (0, i2), (0, i10), (0, (i18 + 1))]) ⟨Or.inr rfl, Or.inr rfl, Or.inr rfl, Or.inr rfl, Or.inr rfl, trivial⟩ (ihlp29_19 ((i17 + 0)) ((i18 + 1))  (by omega) (by omega) (by omega) (by omega) (by omega) (by omega) (by omega))
                      · intro h33
                        refine zw_7 zr_198_54 rfl ?_
                        refine zw_3 zr_198_55 rfl ?_
                        refine zw_4 zr_198_56 rfl ?_
                        refine zw_C zr_198_58 (Or.inl rfl) zm_197 rfl rfl ⟨Nat.le_of_ble_eq_true rfl, Nat.le_of_ble_eq_true rfl, Nat.le_of_ble_eq_true rfl, rfl, by decide⟩ (by omega) (th_197 (d := d - 1) (by omega) hI0 (a0 := i10) (a1 := i18)   (F70 := F70)  hG70 (by omega) (by omega) ) ?_
                        rintro _ _ ⟨r34, rfl, hr34a, hr34b, rfl, po0_r34⟩
                        show zW E (d) 198 61 [(2, 69), (0, i17), (0, i2), (0, i10), (0, i18)] [(0, r34), (0, i17)] m0 Q
                        refine zw_40_1 zr_198_61 ?_ ?_
                        · intro h35
                          refine zw_push zr_198_78 ?_
                          refine zw_16 zr_198_79 (by omega) ?_
                          refine zw_9 (L' := [(2, 69), (0, (i17 + 0)), (0, i2), (0, i10), (0, i18)]) zr_198_80 (Nat.le_of_ble_eq_true rfl) rfl ?_
                          have z36 := t3_s F70 (F70 823).toNat (i2) (i10) (i18) (by omega) (by omega) (by omega)
                          have z37 := tgv_c F70 (F70 823).toNat (i2) (i10) (i18)
                          refine zw_15 (c := 1) (L' := [(2, 69), (0, (i17 + 0)), (0, i2), (0, i10), (0, (i18 + 1))]) zr_198_81 rfl (by decide) (by omega) rfl ?_
                          refine zw_42 zr_198_84 ?_
                          exact zw_less (L := [(2, 69), (0, (i17 + 0)), (0, i2), (0, i10), (0, (i18 + 1))]) ⟨Or.inr rfl, Or.inr rfl, Or.inr rfl, Or.inr rfl, Or.inr rfl, trivial⟩ (ihlp29_19 ((i17 + 0)) ((i18 + 1))  (by omega) (by omega) (by omega) (by omega) (by omega) (by omega) (by omega))
                        · intro h38
                          refine zw_7 zr_198_64 rfl ?_
                          refine zw_4 zr_198_65 rfl ?_
                          refine zw_3 zr_198_67 rfl ?_
                          refine zw_C zr_198_68 (Or.inl rfl) zm_197 rfl rfl ⟨Nat.le_of_ble_eq_true rfl, Nat.le_of_ble_eq_true rfl, Nat.le_of_ble_eq_true rfl, rfl, by decide⟩ (by omega) (th_197 (d := d - 1) (by omega) hI0 (a0 := i18) (a1 := i2)   (F70 := F70)  hG70 (by omega) (by omega) ) ?_
                          rintro _ _ ⟨r39, rfl, hr39a, hr39b, rfl, po0_r39⟩
                          show zW E (d) 198 71 [(2, 69), (0, i17), (0, i2), (0, i10), (0, i18)] [(0, r39), (0, i17)] m0 Q
                          refine zw_40_1 zr_198_71 ?_ ?_
                          · intro h40
                            refine zw_push zr_198_78 ?_
                            refine zw_16 zr_198_79 (by omega) ?_
                            refine zw_9 (L' := [(2, 69), (0, (i17 + 0)), (0, i2), (0, i10), (0, i18)]) zr_198_80 (Nat.le_of_ble_eq_true rfl) rfl ?_
                            have z41 := t3_s F70 (F70 823).toNat (i2) (i10) (i18) (by omega) (by omega) (by omega)
                            have z42 := tgv_c F70 (F70 823).toNat (i2) (i10) (i18)
                            refine zw_15 (c := 1) (L' := [(2, 69), (0, (i17 + 0)), (0, i2), (0, i10), (0, (i18 + 1))]) zr_198_81 rfl (by decide) (by omega) rfl ?_
                            refine zw_42 zr_198_84 ?_
                            exact zw_less (L := [(2, 69), (0, (i17 + 0)), (0, i2), (0, i10), (0, (i18 + 1))]) ⟨Or.inr rfl, Or.inr rfl, Or.inr rfl, Or.inr rfl, Or.inr rfl, trivial⟩ (ihlp29_19 ((i17 + 0)) ((i18 + 1))  (by omega) (by omega) (by omega) (by omega) (by omega) (by omega) (by omega))
                          · intro h43
                            refine zw_push zr_198_74 ?_
                            refine zw_42 zr_198_75 ?_
                            refine zw_16 zr_198_79 (by omega) ?_
                            refine zw_9 (L' := [(2, 69), (0, (i17 + 1)), (0, i2), (0, i10), (0, i18)]) zr_198_80 (Nat.le_of_ble_eq_true rfl) rfl ?_
                            have z44 := t3_s F70 (F70 823).toNat (i2) (i10) (i18) (by omega) (by omega) (by omega)
                            have z45 := tgv_c F70 (F70 823).toNat (i2) (i10) (i18)
                            refine zw_15 (c := 1) (L' := [(2, 69), (0, (i17 + 1)), (0, i2), (0, i10), (0, (i18 + 1))]) zr_198_81 rfl (by decide) (by omega) rfl ?_
                            refine zw_42 zr_198_84 ?_
                            exact zw_less (L := [(2, 69), (0, (i17 + 1)), (0, i2), (0, i10), (0, (i18 + 1))]) ⟨Or.inr rfl, Or.inr rfl, Or.inr rfl, Or.inr rfl, Or.inr rfl, trivial⟩ (ihlp29_19 ((i17 + 1)) ((i18 + 1))  (by omega) (by omega) (by omega) (by omega) (by omega) (by omega) (by omega))
              exact lp29_19 _ (i9) ((i2 + 1))  (by omega) (by omega) (by omega) (by omega) (by have := t3_0 F70 (F70 823).toNat (i2) (i10) (by omega); omega) (by omega) (Nat.lt_succ_self _)
        exact lp16_11 _ (i1) ((i2 + 1))  (by omega) (by omega) (by omega) (by omega) (by have := t2_0 F70 (F70 823).toNat g0.toNat (i2) (by omega); omega) (by omega) (Nat.lt_succ_self _)
  exact lp4_3 _ (0) (0)  (by omega) (by omega) (by omega) (by omega) (by rfl) (by omega) (Nat.lt_succ_self _)

abbrev W_4_68 : List (Nat × Nat) := [(68, 1000)]
set_option maxHeartbeats 8000000 in
theorem th_4_68 {E : zE} {d : Nat} {m0 : zM} {a0 : Int} (hd : 1 ≤ d) (hI0 : zInv m0) (ha0 : 0 ≤ a0 ∧ a0 ≤ 0) : zC E d 4 [(2, 68), (0, a0)] m0 (fun v m' => v = (9, 0) ∧ zInv m' ∧ zFr W_4_68 m0 m') := by
  have hF0 : zFr W_4_68 m0 m0 := zFr.rfl
  generalize hQ : (fun (v : zV) (m' : zM) => v = (9, 0) ∧ zInv m' ∧ zFr W_4_68 m0 m') = Q
  show zW E d 4 0 [(2, 68), (0, a0), (9, 0), (9, 0)] [] m0 Q
  refine zw_push zr_4_0 ?_
  refine zw_9 (L' := [(2, 68), (0, a0), (0, 0), (9, 0)]) zr_4_1 (Nat.le_of_ble_eq_true rfl) rfl ?_
  refine zw_7 zr_4_2 rfl ?_
  refine zw_101 (c := 68) (len := 11) zr_4_3 rfl rfl (by decide) ?_
  refine zw_9 (L' := [(2, 68), (0, a0), (0, 0), (0, 11)]) zr_4_4 (Nat.le_of_ble_eq_true rfl) rfl ?_
  have lp5_3 : ∀ (nlp5_3 : Nat) (i1 : Int) (m2 : zM), zInv m2 → zFr W_4_68 m0 m2 → 0 ≤ i1 → i1 ≤ 11 → (11 - i1).toNat < nlp5_3 → zW E (d) 4 5 [(2, 68), (0, a0), (0, i1), (0, 11)] [] m2 Q := by
    intro nlp5_3
    induction nlp5_3 with
    | zero =>
      intros
      exact absurd (by assumption : _ < 0) (Nat.not_lt_zero _)
    | succ nlp5_3 ihlp5_3 =>
      intro i1 m2 hIm2 hFm2 li1 ui1 hmlp5_3
      refine zw_3 zr_4_5 rfl ?_
      refine zw_3 zr_4_6 rfl ?_
      refine zw_41_3 zr_4_7 ?_ ?_
      · intro h5
        refine zw_R zr_4_20 (by decide) zm_4 (v := (9, 0)) rfl ?_
        rw [← hQ]; exact ⟨rfl, hIm2, hFm2⟩
      · intro h6
        refine zw_7 zr_4_10 rfl ?_
        refine zw_3 zr_4_11 rfl ?_
        refine zw_3 zr_4_12 rfl ?_
        refine zw_49 (c := 68) (len := 11) zr_4_13 rfl rfl (by omega) (by omega) ?_
        intro m7 em7
        have hIm7 : zInv m7 := by rw [em7]; exact hIm2.any (by omega) rfl (by decide) (by decide)
        have hFm7 : zFr W_4_68 m0 m7 := by rw [em7]; exact hFm2.any rfl
        clear em7
        refine zw_15 (c := 1) (L' := [(2, 68), (0, a0), (0, (i1 + 1)), (0, 11)]) zr_4_14 rfl (by decide) (by omega) rfl ?_
        refine zw_42 zr_4_17 ?_
        exact zw_less (L := [(2, 68), (0, a0), (0, (i1 + 1)), (0, 11)]) ⟨Or.inr rfl, Or.inr rfl, Or.inr rfl, Or.inr rfl, trivial⟩ (ihlp5_3 ((i1 + 1)) m7 hIm7 hFm7   (by omega) (by omega)  (by omega))
  exact lp5_3 _ (0) m0 hI0 hF0   (by omega) (by omega)  (Nat.lt_succ_self _)

abbrev W_94 : List (Nat × Nat) := [(68, 1000)]
set_option maxHeartbeats 8000000 in
theorem th_94 {E : zE} {d : Nat} {m0 : zM} (hd : 2 ≤ d) (hI0 : zInv m0) : zC E d 94 [(2, 63)] m0 (fun v m' => v = (9, 0) ∧ zInv m' ∧ zFr W_94 m0 m') := by
  have hF0 : zFr W_94 m0 m0 := zFr.rfl
  generalize hQ : (fun (v : zV) (m' : zM) => v = (9, 0) ∧ zInv m' ∧ zFr W_94 m0 m') = Q
  show zW E d 94 0 [(2, 63), (9, 0), (9, 0)] [] m0 Q
  refine zw_7 zr_94_0 rfl ?_
  refine zw_46r (s := 68) zr_94_1 rfl rfl rfl rfl ?_
  refine zw_push zr_94_4 ?_
  refine zw_C zr_94_5 (Or.inr rfl) zm_4 rfl rfl ⟨Nat.le_of_ble_eq_true rfl, Nat.le_of_ble_eq_true rfl, Nat.le_of_ble_eq_true rfl, rfl, by decide⟩ (by omega) (th_4_68 (d := d - 1) (by omega) hI0 (a0 := 0)      (by omega) ) ?_
  rintro _ m1 ⟨rfl, hIm1, gm1⟩
  have hFm1 : zFr W_94 m0 m1 := hF0.trans gm1 rfl
  show zW E (d) 94 8 [(2, 63), (9, 0), (9, 0)] [] m1 Q
  refine zw_7 zr_94_8 rfl ?_
  refine zw_46r (s := 1) zr_94_9 rfl rfl rfl rfl ?_
  obtain ⟨f2, ef2⟩ : ∃ v, m1 1 0 = v := ⟨_, rfl⟩
  have bf2 := ib_1_0 hIm1
  rw [ef2] at bf2
  refine zw_46i zr_94_12 ef2 rfl rfl rfl ?_
  refine zw_push zr_94_15 ?_
  refine zw_17 zr_94_16 (by omega) ?_
  refine zw_9 (L' := [(2, 63), (0, (f2 - 1)), (9, 0)]) zr_94_17 (Nat.le_of_ble_eq_true rfl) rfl ?_
  have lp18_5 : ∀ (nlp18_5 : Nat) (i3 : Int) (m4 : zM), zInv m4 → zFr W_94 m0 m4 → m4 1 0 = f2 → (-1) ≤ i3 → i3 ≤ 9 → (i3 - (-1)).toNat < nlp18_5 → zW E (d) 94 18 [(2, 63), (0, i3), (9, 0)] [] m4 Q := by
    intro nlp18_5
    induction nlp18_5 with
    | zero =>
      intros
      exact absurd (by assumption : _ < 0) (Nat.not_lt_zero _)
    | succ nlp18_5 ihlp18_5 =>
      intro i3 m4 hIm4 hFm4 km4_1_0 li3 ui3 hmlp18_5
      refine zw_3 zr_94_18 rfl ?_
      refine zw_40_0 zr_94_19 ?_ ?_
      · intro h7
        refine zw_R zr_94_79 (by decide) zm_94 (v := (9, 0)) rfl ?_
        rw [← hQ]; exact ⟨rfl, hIm4, hFm4⟩
      · intro h8
        refine zw_7 zr_94_22 rfl ?_
        refine zw_46r (s := 68) zr_94_23 rfl rfl rfl rfl ?_
        refine zw_3 zr_94_26 rfl ?_
        refine zw_7 zr_94_27 rfl ?_
        refine zw_46r (s := 68) zr_94_28 rfl rfl rfl rfl ?_
        refine zw_3 zr_94_31 rfl ?_
        refine zw_push zr_94_32 ?_
        refine zw_16 zr_94_33 (by omega) ?_
        refine zw_48 (c := 68) (len := 11) zr_94_34 rfl rfl (by omega) (by omega) ?_
        intro x9 ex9
        have bx9 := hIm4.ra (c := 68) (len := 11) (k := ((i3 + 1)).toNat) rfl (by omega)
        rw [← ex9] at bx9
        clear ex9
        refine zw_49 (c := 68) (len := 11) zr_94_35 rfl rfl (by omega) (by omega) ?_
        intro m10 em10
        have hIm10 : zInv m10 := by rw [em10]; exact hIm4.any (by omega) rfl (by decide) (by decide)
        have hFm10 : zFr W_94 m0 m10 := by rw [em10]; exact hFm4.any rfl
        have km10_1_0 : m10 1 0 = f2 := by rw [em10, zUp_ne (by omega)]; exact km4_1_0
        clear em10
        refine zw_push zr_94_36 ?_
        refine zw_9 (L' := [(2, 63), (0, i3), (0, 0)]) zr_94_37 (Nat.le_of_ble_eq_true rfl) rfl ?_
        have lp38_13 : ∀ (nlp38_13 : Nat) (i11 : Int) (m12 : zM), zInv m12 → zFr W_94 m0 m12 → m12 1 0 = f2 → 0 ≤ i11 → i11 ≤ 9 → (9 - i11).toNat < nlp38_13 → zW E (d) 94 38 [(2, 63), (0, i3), (0, i11)] [] m12 Q := by
          intro nlp38_13
          induction nlp38_13 with
          | zero =>
            intros
            exact absurd (by assumption : _ < 0) (Nat.not_lt_zero _)
          | succ nlp38_13 ihlp38_13 =>
            intro i11 m12 hIm12 hFm12 km12_1_0 li11 ui11 hmlp38_13
            refine zw_3 zr_94_38 rfl ?_
            refine zw_3 zr_94_39 rfl ?_
            refine zw_41_3 zr_94_40 ?_ ?_
            · intro h15
              refine zw_15 (c := (-1)) (L' := [(2, 63), (0, (i3 + (-1))), (0, i11)]) zr_94_73 rfl (by decide) (by omega) rfl ?_
              refine zw_42 zr_94_76 ?_
              exact zw_less (L := [(2, 63), (0, (i3 + (-1))), (9, 0)]) ⟨Or.inr rfl, Or.inr rfl, Or.inl rfl, trivial⟩ (ihlp18_5 ((i3 + (-1))) m12 hIm12 hFm12  km12_1_0 (by omega) (by omega)  (by omega))
            · intro h16
              refine zw_7 zr_94_43 rfl ?_
              refine zw_46r (s := 68) zr_94_44 rfl rfl rfl rfl ?_
              refine zw_3 zr_94_47 rfl ?_
              refine zw_45 zr_94_48 ⟨rfl, rfl⟩ ?_
              refine zw_48 (c := 68) (len := 11) zr_94_49 rfl rfl (by omega) (by omega) ?_
              intro x17 ex17
              have bx17 := hIm12.ra (c := 68) (len := 11) (k := (i3).toNat) rfl (by omega)
              rw [← ex17] at bx17
              clear ex17
              refine zw_7 zr_94_50 rfl ?_
              refine zw_3 zr_94_51 rfl ?_
              refine zw_3 zr_94_52 rfl ?_
              refine zw_C zr_94_53 (Or.inl rfl) zm_91 rfl rfl ⟨Nat.le_of_ble_eq_true rfl, Nat.le_of_ble_eq_true rfl, Nat.le_of_ble_eq_true rfl, rfl, by decide⟩ (by omega) (P := (fun v m' => zW E (d) 94 56 [(2, 63), (0, i3), (0, i11)] (if v.1 = 9 then [(0, x17), (0, i3), (2, 68)] else v :: [(0, x17), (0, i3), (2, 68)]) m' Q)) ?_ (fun _ _ h => h)
              generalize hQ1 : (fun v m' => zW E (d) 94 56 [(2, 63), (0, i3), (0, i11)] (if v.1 = 9 then [(0, x17), (0, i3), (2, 68)] else v :: [(0, x17), (0, i3), (2, 68)]) m' Q) = Q1
              show zW E (d - 1) 91 0 [(2, 63), (0, i3), (0, i11)] [] m12 Q1
              refine zw_7 zr_91_0 rfl ?_
              refine zw_46r (s := 65) zr_91_1 rfl rfl rfl rfl ?_
              refine zw_3 zr_91_4 rfl ?_
              refine zw_push zr_91_5 ?_
              refine zw_18 zr_91_7 (by omega) ?_
              refine zw_3 zr_91_8 rfl ?_
              refine zw_16 zr_91_9 (by omega) ?_
              refine zw_48 (c := 65) (len := 100) zr_91_10 rfl rfl (by omega) (by omega) ?_
              intro x18 ex18
              have bx18 := hIm12.ra (c := 65) (len := 100) (k := (((i3 * 10) + i11)).toNat) rfl (by omega)
              rw [← ex18] at bx18
              clear ex18
              refine zw_R zr_91_11 (by decide) zm_91 (v := (0, x18)) rfl ?_
              rw [← hQ1]
              show zW E (d) 94 56 [(2, 63), (0, i3), (0, i11)] [(0, x18), (0, x17), (0, i3), (2, 68)] m12 Q
              refine zw_7 zr_94_56 rfl ?_
              refine zw_3 zr_94_57 rfl ?_
              refine zw_3 zr_94_58 rfl ?_
              refine zw_C zr_94_59 (Or.inl rfl) zm_91 rfl rfl ⟨Nat.le_of_ble_eq_true rfl, Nat.le_of_ble_eq_true rfl, Nat.le_of_ble_eq_true rfl, rfl, by decide⟩ (by omega) (P := (fun v m' => zW E (d) 94 62 [(2, 63), (0, i3), (0, i11)] (if v.1 = 9 then [(0, x18), (0, x17), (0, i3), (2, 68)] else v :: [(0, x18), (0, x17), (0, i3), (2, 68)]) m' Q)) ?_ (fun _ _ h => h)
              generalize hQ1 : (fun v m' => zW E (d) 94 62 [(2, 63), (0, i3), (0, i11)] (if v.1 = 9 then [(0, x18), (0, x17), (0, i3), (2, 68)] else v :: [(0, x18), (0, x17), (0, i3), (2, 68)]) m' Q) = Q1
              show zW E (d - 1) 91 0 [(2, 63), (0, i11), (0, i3)] [] m12 Q1
              refine zw_7 zr_91_0 rfl ?_
              refine zw_46r (s := 65) zr_91_1 rfl rfl rfl rfl ?_
              refine zw_3 zr_91_4 rfl ?_
              refine zw_push zr_91_5 ?_
              refine zw_18 zr_91_7 (by omega) ?_
              refine zw_3 zr_91_8 rfl ?_
              refine zw_16 zr_91_9 (by omega) ?_
              refine zw_48 (c := 65) (len := 100) zr_91_10 rfl rfl (by omega) (by omega) ?_
              intro x19 ex19
              have bx19 := hIm12.ra (c := 65) (len := 100) (k := (((i11 * 10) + i3)).toNat) rfl (by omega)
              rw [← ex19] at bx19
              clear ex19
              refine zw_R zr_91_11 (by decide) zm_91 (v := (0, x19)) rfl ?_
              rw [← hQ1]
              show zW E (d) 94 62 [(2, 63), (0, i3), (0, i11)] [(0, x19), (0, x18), (0, x17), (0, i3), (2, 68)] m12 Q
              refine zw_120 zr_94_62 (Nat.le_of_ble_eq_true rfl) (by omega) (by omega) (by omega) ?_
              intro x20 hx20a hx20b hx20c
              refine zw_16h zr_94_65 ?_
              intro x21 hx21a hx21b
              refine zw_49 (c := 68) (len := 11) zr_94_66 rfl rfl (by omega) (by omega) ?_
              intro m22 em22
              have hIm22 : zInv m22 := by rw [em22]; exact hIm12.any (by omega) rfl (by decide) (by decide)
              have hFm22 : zFr W_94 m0 m22 := by rw [em22]; exact hFm12.any rfl
              have km22_1_0 : m22 1 0 = f2 := by rw [em22, zUp_ne (by omega)]; exact km12_1_0
              clear em22
              refine zw_15 (c := 1) (L' := [(2, 63), (0, i3), (0, (i11 + 1))]) zr_94_67 rfl (by decide) (by omega) rfl ?_
              refine zw_42 zr_94_70 ?_
              exact zw_less (L := [(2, 63), (0, i3), (0, (i11 + 1))]) ⟨Or.inr rfl, Or.inr rfl, Or.inr rfl, trivial⟩ (ihlp38_13 ((i11 + 1)) m22 hIm22 hFm22  km22_1_0 (by omega) (by omega)  (by omega))
        exact lp38_13 _ (0) m10 hIm10 hFm10  km10_1_0 (by omega) (by omega)  (Nat.lt_succ_self _)
  exact lp18_5 _ ((f2 - 1)) m1 hIm1 hFm1  ef2 (by omega) (by omega)  (Nat.lt_succ_self _)

abbrev W_95 : List (Nat × Nat) := [(67, 1000)]
set_option maxHeartbeats 8000000 in
theorem th_95 {E : zE} {d : Nat} {m0 : zM} {a0 : Int} (hd : 2 ≤ d) (hI0 : zInv m0) (ha0 : 0 ≤ a0 ∧ a0 ≤ 9) : zC E d 95 [(2, 63), (0, a0)] m0 (fun v m' => v = (9, 0) ∧ zInv m' ∧ zFr W_95 m0 m') := by
  have hF0 : zFr W_95 m0 m0 := zFr.rfl
  generalize hQ : (fun (v : zV) (m' : zM) => v = (9, 0) ∧ zInv m' ∧ zFr W_95 m0 m') = Q
  show zW E d 95 0 [(2, 63), (0, a0), (9, 0)] [] m0 Q
  refine zw_push zr_95_0 ?_
  refine zw_9 (L' := [(2, 63), (0, a0), (0, 0)]) zr_95_1 (Nat.le_of_ble_eq_true rfl) rfl ?_
  have lp2_3 : ∀ (nlp2_3 : Nat) (i1 : Int) (m2 : zM), zInv m2 → zFr W_95 m0 m2 → 0 ≤ i1 → i1 ≤ 3 → (3 - i1).toNat < nlp2_3 → zW E (d) 95 2 [(2, 63), (0, a0), (0, i1)] [] m2 Q := by
    intro nlp2_3
    induction nlp2_3 with
    | zero =>
      intros
      exact absurd (by assumption : _ < 0) (Nat.not_lt_zero _)
    | succ nlp2_3 ihlp2_3 =>
      intro i1 m2 hIm2 hFm2 li1 ui1 hmlp2_3
      refine zw_3 zr_95_2 rfl ?_
      refine zw_push zr_95_3 ?_
      refine zw_41_3 zr_95_4 ?_ ?_
      · intro h5
        refine zw_push zr_95_24 ?_
        refine zw_9 (L' := [(2, 63), (0, a0), (0, 0)]) zr_95_25 (Nat.le_of_ble_eq_true rfl) rfl ?_
        have lp26_8 : ∀ (nlp26_8 : Nat) (i6 : Int) (m7 : zM), zInv m7 → zFr W_95 m0 m7 → 0 ≤ i6 → i6 ≤ 9 → (9 - i6).toNat < nlp26_8 → zW E (d) 95 26 [(2, 63), (0, a0), (0, i6)] [] m7 Q := by
          intro nlp26_8
          induction nlp26_8 with
          | zero =>
            intros
            exact absurd (by assumption : _ < 0) (Nat.not_lt_zero _)
          | succ nlp26_8 ihlp26_8 =>
            intro i6 m7 hIm7 hFm7 li6 ui6 hmlp26_8
            refine zw_3 zr_95_26 rfl ?_
            refine zw_3 zr_95_27 rfl ?_
            refine zw_41_3 zr_95_28 ?_ ?_
            · intro h10
              refine zw_R zr_95_93 (by decide) zm_95 (v := (9, 0)) rfl ?_
              rw [← hQ]; exact ⟨rfl, hIm7, hFm7⟩
            · intro h11
              refine zw_7 zr_95_31 rfl ?_
              refine zw_46r (s := 67) zr_95_32 rfl rfl rfl rfl ?_
              refine zw_3 zr_95_35 rfl ?_
              refine zw_push zr_95_36 ?_
              refine zw_18 zr_95_37 (by omega) ?_
              refine zw_7 zr_95_38 rfl ?_
              refine zw_46r (s := 66) zr_95_39 rfl rfl rfl rfl ?_
              refine zw_3 zr_95_42 rfl ?_
              refine zw_48 (c := 66) (len := 10) zr_95_43 rfl rfl (by omega) (by omega) ?_
              intro x12 ex12
              have bx12 := ib_66 hIm7 (k := (i6).toNat) (by omega)
              rw [← ex12] at bx12
              clear ex12
              refine zw_push zr_95_44 ?_
              refine zw_16 zr_95_45 (by omega) ?_
              refine zw_push zr_95_46 ?_
              refine zw_20 zr_95_47 (by omega) (by omega) (by omega) (by omega) ?_
              refine zw_16 zr_95_48 (by omega) ?_
              refine zw_45 zr_95_49 ⟨rfl, rfl⟩ ?_
              refine zw_48 (c := 67) (len := 30) zr_95_50 rfl rfl (by omega) (by omega) ?_
              intro x13 ex13
              have bx13 := hIm7.ra (c := 67) (len := 30) (k := (((a0 * 3) + ((x12 + 1) % 3))).toNat) rfl (by omega)
              rw [← ex13] at bx13
              clear ex13
              refine zw_7 zr_95_51 rfl ?_
              refine zw_3 zr_95_52 rfl ?_
              refine zw_3 zr_95_53 rfl ?_
              refine zw_C zr_95_54 (Or.inl rfl) zm_91 rfl rfl ⟨Nat.le_of_ble_eq_true rfl, Nat.le_of_ble_eq_true rfl, Nat.le_of_ble_eq_true rfl, rfl, by decide⟩ (by omega) (P := (fun v m' => zW E (d) 95 57 [(2, 63), (0, a0), (0, i6)] (if v.1 = 9 then [(0, x13), (0, ((a0 * 3) + ((x12 + 1) % 3))), (2, 67)] else v :: [(0, x13), (0, ((a0 * 3) + ((x12 + 1) % 3))), (2, 67)]) m' Q)) ?_ (fun _ _ h => h)
              generalize hQ1 : (fun v m' => zW E (d) 95 57 [(2, 63), (0, a0), (0, i6)] (if v.1 = 9 then [(0, x13), (0, ((a0 * 3) + ((x12 + 1) % 3))), (2, 67)] else v :: [(0, x13), (0, ((a0 * 3) + ((x12 + 1) % 3))), (2, 67)]) m' Q) = Q1
              show zW E (d - 1) 91 0 [(2, 63), (0, i6), (0, a0)] [] m7 Q1
              refine zw_7 zr_91_0 rfl ?_
              refine zw_46r (s := 65) zr_91_1 rfl rfl rfl rfl ?_
              refine zw_3 zr_91_4 rfl ?_
              refine zw_push zr_91_5 ?_
              refine zw_18 zr_91_7 (by omega) ?_
              refine zw_3 zr_91_8 rfl ?_
              refine zw_16 zr_91_9 (by omega) ?_
              refine zw_48 (c := 65) (len := 100) zr_91_10 rfl rfl (by omega) (by omega) ?_
              intro x14 ex14
              have bx14 := hIm7.ra (c := 65) (len := 100) (k := (((i6 * 10) + a0)).toNat) rfl (by omega)
              rw [← ex14] at bx14
              clear ex14
              refine zw_R zr_91_11 (by decide) zm_91 (v := (0, x14)) rfl ?_
              rw [← hQ1]
              show zW E (d) 95 57 [(2, 63), (0, a0), (0, i6)] [(0, x14), (0, x13), (0, ((a0 * 3) + ((x12 + 1) % 3))), (2, 67)] m7 Q
              refine zw_16h zr_95_57 ?_
              intro x15 hx15a hx15b
              refine zw_49 (c := 67) (len := 30) zr_95_58 rfl rfl (by omega) (by omega) ?_
              intro m16 em16
              have hIm16 : zInv m16 := by rw [em16]; exact hIm7.any (by omega) rfl (by decide) (by decide)
              have hFm16 : zFr W_95 m0 m16 := by rw [em16]; exact hFm7.any rfl
              clear em16
              refine zw_7 zr_95_59 rfl ?_
              refine zw_46r (s := 67) zr_95_60 rfl rfl rfl rfl ?_
              refine zw_3 zr_95_63 rfl ?_
              refine zw_push zr_95_64 ?_
              refine zw_18 zr_95_65 (by omega) ?_
              refine zw_7 zr_95_66 rfl ?_
              refine zw_46r (s := 66) zr_95_67 rfl rfl rfl rfl ?_
              refine zw_3 zr_95_70 rfl ?_
              refine zw_48 (c := 66) (len := 10) zr_95_71 rfl rfl (by omega) (by omega) ?_
              intro x17 ex17
              have bx17 := ib_66 hIm16 (k := (i6).toNat) (by omega)
              rw [← ex17] at bx17
              clear ex17
              refine zw_push zr_95_72 ?_
              refine zw_16 zr_95_73 (by omega) ?_
              refine zw_push zr_95_74 ?_
              refine zw_20 zr_95_75 (by omega) (by omega) (by omega) (by omega) ?_
              refine zw_16 zr_95_76 (by omega) ?_
              refine zw_45 zr_95_77 ⟨rfl, rfl⟩ ?_
              refine zw_48 (c := 67) (len := 30) zr_95_78 rfl rfl (by omega) (by omega) ?_
              intro x18 ex18
              have bx18 := hIm16.ra (c := 67) (len := 30) (k := (((a0 * 3) + ((x17 + 2) % 3))).toNat) rfl (by omega)
              rw [← ex18] at bx18
              clear ex18
              refine zw_7 zr_95_79 rfl ?_
              refine zw_3 zr_95_80 rfl ?_
              refine zw_3 zr_95_81 rfl ?_
              refine zw_C zr_95_82 (Or.inl rfl) zm_91 rfl rfl ⟨Nat.le_of_ble_eq_true rfl, Nat.le_of_ble_eq_true rfl, Nat.le_of_ble_eq_true rfl, rfl, by decide⟩ (by omega) (P := (fun v m' => zW E (d) 95 85 [(2, 63), (0, a0), (0, i6)] (if v.1 = 9 then [(0, x18), (0, ((a0 * 3) + ((x17 + 2) % 3))), (2, 67)] else v :: [(0, x18), (0, ((a0 * 3) + ((x17 + 2) % 3))), (2, 67)]) m' Q)) ?_ (fun _ _ h => h)
              generalize hQ1 : (fun v m' => zW E (d) 95 85 [(2, 63), (0, a0), (0, i6)] (if v.1 = 9 then [(0, x18), (0, ((a0 * 3) + ((x17 + 2) % 3))), (2, 67)] else v :: [(0, x18), (0, ((a0 * 3) + ((x17 + 2) % 3))), (2, 67)]) m' Q) = Q1
              show zW E (d - 1) 91 0 [(2, 63), (0, a0), (0, i6)] [] m16 Q1
              refine zw_7 zr_91_0 rfl ?_
              refine zw_46r (s := 65) zr_91_1 rfl rfl rfl rfl ?_
              refine zw_3 zr_91_4 rfl ?_
              refine zw_push zr_91_5 ?_
              refine zw_18 zr_91_7 (by omega) ?_
              refine zw_3 zr_91_8 rfl ?_
              refine zw_16 zr_91_9 (by omega) ?_
              refine zw_48 (c := 65) (len := 100) zr_91_10 rfl rfl (by omega) (by omega) ?_
              intro x19 ex19
              have bx19 := hIm16.ra (c := 65) (len := 100) (k := (((a0 * 10) + i6)).toNat) rfl (by omega)
              rw [← ex19] at bx19
              clear ex19
              refine zw_R zr_91_11 (by decide) zm_91 (v := (0, x19)) rfl ?_
              rw [← hQ1]
              show zW E (d) 95 85 [(2, 63), (0, a0), (0, i6)] [(0, x19), (0, x18), (0, ((a0 * 3) + ((x17 + 2) % 3))), (2, 67)] m16 Q
              refine zw_16h zr_95_85 ?_
              intro x20 hx20a hx20b
              refine zw_49 (c := 67) (len := 30) zr_95_86 rfl rfl (by omega) (by omega) ?_
              intro m21 em21
              have hIm21 : zInv m21 := by rw [em21]; exact hIm16.any (by omega) rfl (by decide) (by decide)
              have hFm21 : zFr W_95 m0 m21 := by rw [em21]; exact hFm16.any rfl
              clear em21
              refine zw_15 (c := 1) (L' := [(2, 63), (0, a0), (0, (i6 + 1))]) zr_95_87 rfl (by decide) (by omega) rfl ?_
              refine zw_42 zr_95_90 ?_
              exact zw_less (L := [(2, 63), (0, a0), (0, (i6 + 1))]) ⟨Or.inr rfl, Or.inr rfl, Or.inr rfl, trivial⟩ (ihlp26_8 ((i6 + 1)) m21 hIm21 hFm21   (by omega) (by omega)  (by omega))
        exact lp26_8 _ (0) m2 hIm2 hFm2   (by omega) (by omega)  (Nat.lt_succ_self _)
      · intro h22
        refine zw_7 zr_95_7 rfl ?_
        refine zw_46r (s := 67) zr_95_8 rfl rfl rfl rfl ?_
        refine zw_3 zr_95_11 rfl ?_
        refine zw_push zr_95_12 ?_
        refine zw_18 zr_95_13 (by omega) ?_
        refine zw_3 zr_95_14 rfl ?_
        refine zw_16 zr_95_15 (by omega) ?_
        refine zw_push zr_95_16 ?_
        refine zw_49 (c := 67) (len := 30) zr_95_17 rfl rfl (by omega) (by omega) ?_
        intro m23 em23
        have hIm23 : zInv m23 := by rw [em23]; exact hIm2.any (by omega) rfl (by decide) (by decide)
        have hFm23 : zFr W_95 m0 m23 := by rw [em23]; exact hFm2.any rfl
        clear em23
        refine zw_15 (c := 1) (L' := [(2, 63), (0, a0), (0, (i1 + 1))]) zr_95_18 rfl (by decide) (by omega) rfl ?_
        refine zw_42 zr_95_21 ?_
        exact zw_less (L := [(2, 63), (0, a0), (0, (i1 + 1))]) ⟨Or.inr rfl, Or.inr rfl, Or.inr rfl, trivial⟩ (ihlp2_3 ((i1 + 1)) m23 hIm23 hFm23   (by omega) (by omega)  (by omega))
  exact lp2_3 _ (0) m0 hI0 hF0   (by omega) (by omega)  (Nat.lt_succ_self _)
