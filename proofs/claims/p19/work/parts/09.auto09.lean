abbrev W_124 : List (Nat × Nat) := [(65, 1000)]
set_option maxHeartbeats 8000000 in
theorem th_124 {E : zE} {d : Nat} {m0 : zM} {g0 : Int} {g1 : Int} {g2 : Int} {F6 : Nat → Int} {F7 : Nat → Int} {F8 : Nat → Int} (hd : 4 ≤ d) (hI0 : zInv m0) (hg0 : m0 1 0 = g0) (hg1 : m0 1 1 = g1) (hg2 : m0 1 2 = g2) (hG6 : m0 6 = F6) (hG7 : m0 7 = F7) (hG8 : m0 8 = F8) : zC E d 124 [(2, 0)] m0 (fun v m' => ∃ r : Int, v = (0, r) ∧ 0 ≤ r ∧ r ≤ 2000 ∧ zInv m' ∧ zFr W_124 m0 m' ∧ (∃ f, zWn f F6 F7 F8 g2 g1 ∧ r = ra1 f g0.toNat g0.toNat)) := by
  have hF0 : zFr W_124 m0 m0 := zFr.rfl
  have bg0 := ib_1_0 hI0
  rw [hg0] at bg0
  have bg1 := ib_1_1 hI0
  rw [hg1] at bg1
  have bg2 := ib_1_2 hI0
  rw [hg2] at bg2
  generalize hQ : (fun (v : zV) (m' : zM) => ∃ r : Int, v = (0, r) ∧ 0 ≤ r ∧ r ≤ 2000 ∧ zInv m' ∧ zFr W_124 m0 m' ∧ (∃ f, zWn f F6 F7 F8 g2 g1 ∧ r = ra1 f g0.toNat g0.toNat)) = Q
  show zW E d 124 0 [(2, 0)] [] m0 Q
  refine zw_7 zr_124_0 rfl ?_
  refine zw_46r (s := 63) zr_124_1 rfl rfl rfl rfl ?_
  refine zw_C zr_124_4 (Or.inl rfl) zm_93 rfl rfl ⟨Nat.le_of_ble_eq_true rfl, Nat.le_of_ble_eq_true rfl, Nat.le_of_ble_eq_true rfl, rfl, by decide⟩ (by omega) (th_93 (d := d - 1) (by omega) hI0  (g0 := g0) (g1 := g1) (g2 := g2)  (F65 := m0 65) (F6 := F6) (F7 := F7) (F8 := F8) hg0 hg1 hg2 rfl hG6 hG7 hG8  ) ?_
  rintro _ m1 ⟨r2, rfl, hr2a, hr2b, hIm1, gm1, po0_r2⟩
  have hFm1 : zFr W_124 m0 m1 := hF0.trans gm1 rfl
  have km1_1_0 : m1 1 0 = g0 := (gm1 1 0 rfl).trans hg0
  have km1_1_1 : m1 1 1 = g1 := (gm1 1 1 rfl).trans hg1
  have km1_1_2 : m1 1 2 = g2 := (gm1 1 2 rfl).trans hg2
  have fm1_6 : m1 6 = F6 := (funext fun k => gm1 6 k rfl).trans hG6
  have fm1_7 : m1 7 = F7 := (funext fun k => gm1 7 k rfl).trans hG7
  have fm1_8 : m1 8 = F8 := (funext fun k => gm1 8 k rfl).trans hG8
  show zW E (d) 124 7 [(2, 0)] [(0, r2)] m1 Q
  refine zw_R zr_124_7 (by decide) zm_124 (v := (0, r2)) rfl ?_
  rw [← hQ]; exact ⟨_, rfl, by omega, by omega, hIm1, hFm1, po0_r2⟩

set_option maxHeartbeats 8000000 in
theorem th_197 {E : zE} {d : Nat} {m0 : zM} {a0 : Int} {a1 : Int} {F70 : Nat → Int} (hd : 2 ≤ d) (hI0 : zInv m0) (hG70 : m0 70 = F70) (ha0 : 0 ≤ a0 ∧ a0 ≤ 9) (ha1 : 0 ≤ a1 ∧ a1 ≤ 9) : zC E d 197 [(2, 69), (0, a0), (0, a1)] m0 (fun v m' => ∃ r : Int, v = (0, r) ∧ 0 ≤ r ∧ r ≤ 1 ∧ m0 = m' ∧ (r = hbv F70 a0 a1 (F70 823).toNat)) := by
  generalize hQ : (fun (v : zV) (m' : zM) => ∃ r : Int, v = (0, r) ∧ 0 ≤ r ∧ r ≤ 1 ∧ m0 = m' ∧ (r = hbv F70 a0 a1 (F70 823).toNat)) = Q
  show zW E d 197 0 [(2, 69), (0, a0), (0, a1), (9, 0), (9, 0), (9, 0)] [] m0 Q
  refine zw_push zr_197_0 ?_
  refine zw_9 (L' := [(2, 69), (0, a0), (0, a1), (0, 0), (9, 0), (9, 0)]) zr_197_1 (Nat.le_of_ble_eq_true rfl) rfl ?_
  refine zw_push zr_197_2 ?_
  refine zw_10 (L' := [(2, 69), (0, a0), (0, a1), (0, 0), (0, 0), (9, 0)]) zr_197_3 (Nat.le_of_ble_eq_true rfl) rfl ?_
  have lp5_3 : ∀ (nlp5_3 : Nat) (i1 i2 : Int), 0 ≤ i1 → i1 ≤ 1 → 0 ≤ i2 → i2 ≤ 60 → (i1 = hbv F70 a0 a1 (i2).toNat) → (i2 ≤ m0 70 823) → (60 - i2).toNat < nlp5_3 → zW E (d) 197 5 [(2, 69), (0, a0), (0, a1), (0, i1), (0, i2), (9, 0)] [] m0 Q := by
    intro nlp5_3
    induction nlp5_3 with
    | zero =>
      intros
      exact absurd (by assumption : _ < 0) (Nat.not_lt_zero _)
    | succ nlp5_3 ihlp5_3 =>
      intro i1 i2 li1 ui1 li2 ui2 hv0lp5_3 hv1lp5_3 hmlp5_3
      have z5 := zhb F70 a0 a1 (i2).toNat (i2 + 1).toNat ((90 + (6 * i2)) + 1).toNat ((90 + (6 * i2)) + 2).toNat ((90 + (6 * i2)) + 3).toNat ((90 + (6 * i2)) + 4).toNat (by omega) (by omega) (by omega) (by omega) (by omega)
      refine zw_4 zr_197_5 rfl ?_
      refine zw_7 zr_197_7 rfl ?_
      refine zw_C zr_197_8 (Or.inl rfl) zm_142 rfl rfl ⟨Nat.le_of_ble_eq_true rfl, Nat.le_of_ble_eq_true rfl, Nat.le_of_ble_eq_true rfl, rfl, by decide⟩ (by omega) (P := (fun v m' => zW E (d) 197 11 [(2, 69), (0, a0), (0, a1), (0, i1), (0, i2), (9, 0)] (if v.1 = 9 then [(0, i2)] else v :: [(0, i2)]) m' Q)) ?_ (fun _ _ h => h)
      generalize hQ1 : (fun v m' => zW E (d) 197 11 [(2, 69), (0, a0), (0, a1), (0, i1), (0, i2), (9, 0)] (if v.1 = 9 then [(0, i2)] else v :: [(0, i2)]) m' Q) = Q1
      show zW E (d - 1) 142 0 [(2, 69)] [] m0 Q1
      refine zw_7 zr_142_0 rfl ?_
      refine zw_46r (s := 70) zr_142_1 rfl rfl rfl rfl ?_
      refine zw_push zr_142_4 ?_
      obtain ⟨f6, ef6⟩ : ∃ v, m0 70 823 = v := ⟨_, rfl⟩
      have bf6 : 0 ≤ m0 70 823 ∧ m0 70 823 ≤ 60 := ib_70_meetings hI0 (by omega)
      rw [ef6] at bf6
      refine zw_48k (c := 70) (len := 826) zr_142_7 rfl rfl (by omega) (by omega) (show (823 : Int).toNat = 823 by omega) ef6 ?_
      refine zw_R zr_142_8 (by decide) zm_142 (v := (0, f6)) rfl ?_
      rw [← hQ1]
      show zW E (d) 197 11 [(2, 69), (0, a0), (0, a1), (0, i1), (0, i2), (9, 0)] [(0, f6), (0, i2)] m0 Q
      refine zw_41_3 zr_197_11 ?_ ?_
      · intro h7
        refine zw_3 zr_197_117 rfl ?_
        refine zw_R zr_197_118 (by decide) zm_197 (v := (0, i1)) (zRetB (by omega)) ?_
        rw [← hQ]; exact ⟨_, rfl, by omega, by omega, rfl, by rw [show F70 823 = i2 by rw [← hG70]; omega]; omega⟩
      · intro h9
        refine zw_7 zr_197_14 rfl ?_
        refine zw_4 zr_197_15 rfl ?_
        refine zw_push zr_197_17 ?_
        refine zw_C zr_197_18 (Or.inl rfl) zm_144 rfl rfl ⟨Nat.le_of_ble_eq_true rfl, Nat.le_of_ble_eq_true rfl, Nat.le_of_ble_eq_true rfl, rfl, by decide⟩ (by omega) (P := (fun v m' => zW E (d) 197 21 [(2, 69), (0, a0), (0, a1), (0, i1), (0, i2), (9, 0)] (if v.1 = 9 then [] else v :: []) m' Q)) ?_ (fun _ _ h => h)
        generalize hQ1 : (fun v m' => zW E (d) 197 21 [(2, 69), (0, a0), (0, a1), (0, i1), (0, i2), (9, 0)] (if v.1 = 9 then [] else v :: []) m' Q) = Q1
        show zW E (d - 1) 144 0 [(2, 69), (0, i2), (0, 1)] [] m0 Q1
        refine zw_7 zr_144_0 rfl ?_
        refine zw_46r (s := 70) zr_144_1 rfl rfl rfl rfl ?_
        refine zw_push zr_144_4 ?_
        refine zw_push zr_144_6 ?_
        refine zw_3 zr_144_8 rfl ?_
        refine zw_18 zr_144_9 (by omega) ?_
        refine zw_16 zr_144_10 (by omega) ?_
        refine zw_3 zr_144_11 rfl ?_
        refine zw_16 zr_144_12 (by omega) ?_
        refine zw_48 (c := 70) (len := 826) zr_144_13 rfl rfl (by omega) (by omega) ?_
        intro x10 ex10
        have bx10 := ib_70_m1 hI0 (k := (((90 + (6 * i2)) + 1)).toNat) (by omega)
        rw [← ex10] at bx10
        have qx10 : x10 = F70 (((90 + (6 * i2)) + 1)).toNat := by rw [← hG70]; exact ex10
        refine zw_R zr_144_14 (by decide) zm_144 (v := (0, x10)) rfl ?_
        rw [← hQ1]
        show zW E (d) 197 21 [(2, 69), (0, a0), (0, a1), (0, i1), (0, i2), (9, 0)] [(0, x10)] m0 Q
        refine zw_3 zr_197_21 rfl ?_
        refine zw_41_4 zr_197_22 ?_ ?_
        · intro h11
          refine zw_7 zr_197_47 rfl ?_
          refine zw_4 zr_197_48 rfl ?_
          refine zw_push zr_197_50 ?_
          refine zw_C zr_197_51 (Or.inl rfl) zm_144 rfl rfl ⟨Nat.le_of_ble_eq_true rfl, Nat.le_of_ble_eq_true rfl, Nat.le_of_ble_eq_true rfl, rfl, by decide⟩ (by omega) (P := (fun v m' => zW E (d) 197 54 [(2, 69), (0, a0), (0, a1), (0, i1), (0, i2), (9, 0)] (if v.1 = 9 then [] else v :: []) m' Q)) ?_ (fun _ _ h => h)
          generalize hQ1 : (fun v m' => zW E (d) 197 54 [(2, 69), (0, a0), (0, a1), (0, i1), (0, i2), (9, 0)] (if v.1 = 9 then [] else v :: []) m' Q) = Q1
          show zW E (d - 1) 144 0 [(2, 69), (0, i2), (0, 1)] [] m0 Q1
          refine zw_7 zr_144_0 rfl ?_
          refine zw_46r (s := 70) zr_144_1 rfl rfl rfl rfl ?_
          refine zw_push zr_144_4 ?_
          refine zw_push zr_144_6 ?_
          refine zw_3 zr_144_8 rfl ?_
          refine zw_18 zr_144_9 (by omega) ?_
          refine zw_16 zr_144_10 (by omega) ?_
          refine zw_3 zr_144_11 rfl ?_
          refine zw_16 zr_144_12 (by omega) ?_
          refine zw_48k (c := 70) (len := 826) zr_144_13 rfl rfl (by omega) (by omega) rfl ex10.symm ?_
          refine zw_R zr_144_14 (by decide) zm_144 (v := (0, x10)) rfl ?_
          rw [← hQ1]
          show zW E (d) 197 54 [(2, 69), (0, a0), (0, a1), (0, i1), (0, i2), (9, 0)] [(0, x10)] m0 Q
          refine zw_3 zr_197_54 rfl ?_
          refine zw_41_4 zr_197_55 ?_ ?_
          · intro h12
            refine zw_push zr_197_83 ?_
            refine zw_10 (L' := [(2, 69), (0, a0), (0, a1), (0, i1), (0, i2), (0, 0)]) zr_197_84 (Nat.le_of_ble_eq_true rfl) rfl ?_
            refine zw_3 zr_197_86 rfl ?_
            refine zw_40_4 zr_197_87 ?_ ?_
            · intro h13
              refine zw_push zr_197_105 ?_
              refine zw_42 zr_197_106 ?_
              refine zw_9 (L' := [(2, 69), (0, a0), (0, a1), (0, 1), (0, i2), (0, 0)]) zr_197_110 (Nat.le_of_ble_eq_true rfl) rfl ?_
              refine zw_15 (c := 1) (L' := [(2, 69), (0, a0), (0, a1), (0, 1), (0, (i2 + 1)), (0, 0)]) zr_197_111 rfl (by decide) (by omega) rfl ?_
              refine zw_42 zr_197_114 ?_
              exact zw_less (L := [(2, 69), (0, a0), (0, a1), (0, 1), (0, (i2 + 1)), (9, 0)]) ⟨Or.inr rfl, Or.inr rfl, Or.inr rfl, Or.inr rfl, Or.inr rfl, Or.inl rfl, trivial⟩ (ihlp5_3 (1) ((i2 + 1))  (by omega) (by omega) (by omega) (by omega) (by omega) (by omega) (by omega))
            · intro h14
              refine zw_4 zr_197_90 rfl ?_
              refine zw_40_1 zr_197_92 ?_ ?_
              · intro h15
                refine zw_push zr_197_109 ?_
                refine zw_9 (L' := [(2, 69), (0, a0), (0, a1), (0, 0), (0, i2), (0, 0)]) zr_197_110 (Nat.le_of_ble_eq_true rfl) rfl ?_
                refine zw_15 (c := 1) (L' := [(2, 69), (0, a0), (0, a1), (0, 0), (0, (i2 + 1)), (0, 0)]) zr_197_111 rfl (by decide) (by omega) rfl ?_
                refine zw_42 zr_197_114 ?_
                exact zw_less (L := [(2, 69), (0, a0), (0, a1), (0, 0), (0, (i2 + 1)), (9, 0)]) ⟨Or.inr rfl, Or.inr rfl, Or.inr rfl, Or.inr rfl, Or.inr rfl, Or.inl rfl, trivial⟩ (ihlp5_3 (0) ((i2 + 1))  (by omega) (by omega) (by omega) (by omega) (by omega) (by omega) (by omega))
              · intro h16; omega
          · intro h17
            refine zw_7 zr_197_58 rfl ?_
            refine zw_4 zr_197_59 rfl ?_
            refine zw_push zr_197_61 ?_
            refine zw_C zr_197_62 (Or.inl rfl) zm_144 rfl rfl ⟨Nat.le_of_ble_eq_true rfl, Nat.le_of_ble_eq_true rfl, Nat.le_of_ble_eq_true rfl, rfl, by decide⟩ (by omega) (P := (fun v m' => zW E (d) 197 65 [(2, 69), (0, a0), (0, a1), (0, i1), (0, i2), (9, 0)] (if v.1 = 9 then [] else v :: []) m' Q)) ?_ (fun _ _ h => h)
            generalize hQ1 : (fun v m' => zW E (d) 197 65 [(2, 69), (0, a0), (0, a1), (0, i1), (0, i2), (9, 0)] (if v.1 = 9 then [] else v :: []) m' Q) = Q1
            show zW E (d - 1) 144 0 [(2, 69), (0, i2), (0, 2)] [] m0 Q1
            refine zw_7 zr_144_0 rfl ?_
            refine zw_46r (s := 70) zr_144_1 rfl rfl rfl rfl ?_
            refine zw_push zr_144_4 ?_
            refine zw_push zr_144_6 ?_
            refine zw_3 zr_144_8 rfl ?_
            refine zw_18 zr_144_9 (by omega) ?_
            refine zw_16 zr_144_10 (by omega) ?_
            refine zw_3 zr_144_11 rfl ?_
            refine zw_16 zr_144_12 (by omega) ?_
            refine zw_48 (c := 70) (len := 826) zr_144_13 rfl rfl (by omega) (by omega) ?_
            intro x18 ex18
            have bx18 := ib_70_m2 hI0 (k := (((90 + (6 * i2)) + 2)).toNat) (by omega)
            rw [← ex18] at bx18
            have qx18 : x18 = F70 (((90 + (6 * i2)) + 2)).toNat := by rw [← hG70]; exact ex18
            refine zw_R zr_144_14 (by decide) zm_144 (v := (0, x18)) rfl ?_
            rw [← hQ1]
            show zW E (d) 197 65 [(2, 69), (0, a0), (0, a1), (0, i1), (0, i2), (9, 0)] [(0, x18)] m0 Q
            refine zw_3 zr_197_65 rfl ?_
            refine zw_41_4 zr_197_66 ?_ ?_
            · intro h19
              refine zw_push zr_197_83 ?_
              refine zw_10 (L' := [(2, 69), (0, a0), (0, a1), (0, i1), (0, i2), (0, 0)]) zr_197_84 (Nat.le_of_ble_eq_true rfl) rfl ?_
              refine zw_3 zr_197_86 rfl ?_
              refine zw_40_4 zr_197_87 ?_ ?_
              · intro h20
                refine zw_push zr_197_105 ?_
                refine zw_42 zr_197_106 ?_
                refine zw_9 (L' := [(2, 69), (0, a0), (0, a1), (0, 1), (0, i2), (0, 0)]) zr_197_110 (Nat.le_of_ble_eq_true rfl) rfl ?_
                refine zw_15 (c := 1) (L' := [(2, 69), (0, a0), (0, a1), (0, 1), (0, (i2 + 1)), (0, 0)]) zr_197_111 rfl (by decide) (by omega) rfl ?_
                refine zw_42 zr_197_114 ?_
                exact zw_less (L := [(2, 69), (0, a0), (0, a1), (0, 1), (0, (i2 + 1)), (9, 0)]) ⟨Or.inr rfl, Or.inr rfl, Or.inr rfl, Or.inr rfl, Or.inr rfl, Or.inl rfl, trivial⟩ (ihlp5_3 (1) ((i2 + 1))  (by omega) (by omega) (by omega) (by omega) (by omega) (by omega) (by omega))
              · intro h21
                refine zw_4 zr_197_90 rfl ?_
                refine zw_40_1 zr_197_92 ?_ ?_
                · intro h22
                  refine zw_push zr_197_109 ?_
                  refine zw_9 (L' := [(2, 69), (0, a0), (0, a1), (0, 0), (0, i2), (0, 0)]) zr_197_110 (Nat.le_of_ble_eq_true rfl) rfl ?_
                  refine zw_15 (c := 1) (L' := [(2, 69), (0, a0), (0, a1), (0, 0), (0, (i2 + 1)), (0, 0)]) zr_197_111 rfl (by decide) (by omega) rfl ?_
                  refine zw_42 zr_197_114 ?_
                  exact zw_less (L := [(2, 69), (0, a0), (0, a1), (0, 0), (0, (i2 + 1)), (9, 0)]) ⟨Or.inr rfl, Or.inr rfl, Or.inr rfl, Or.inr rfl, Or.inr rfl, Or.inl rfl, trivial⟩ (ihlp5_3 (0) ((i2 + 1))  (by omega) (by omega) (by omega) (by omega) (by omega) (by omega) (by omega))
                · intro h23; omega
            · intro h24
              refine zw_7 zr_197_69 rfl ?_
              refine zw_4 zr_197_70 rfl ?_
              refine zw_push zr_197_72 ?_
              refine zw_C zr_197_73 (Or.inl rfl) zm_144 rfl rfl ⟨Nat.le_of_ble_eq_true rfl, Nat.le_of_ble_eq_true rfl, Nat.le_of_ble_eq_true rfl, rfl, by decide⟩ (by omega) (P := (fun v m' => zW E (d) 197 76 [(2, 69), (0, a0), (0, a1), (0, i1), (0, i2), (9, 0)] (if v.1 = 9 then [] else v :: []) m' Q)) ?_ (fun _ _ h => h)
              generalize hQ1 : (fun v m' => zW E (d) 197 76 [(2, 69), (0, a0), (0, a1), (0, i1), (0, i2), (9, 0)] (if v.1 = 9 then [] else v :: []) m' Q) = Q1
              show zW E (d - 1) 144 0 [(2, 69), (0, i2), (0, 3)] [] m0 Q1
              refine zw_7 zr_144_0 rfl ?_
              refine zw_46r (s := 70) zr_144_1 rfl rfl rfl rfl ?_
              refine zw_push zr_144_4 ?_
              refine zw_push zr_144_6 ?_
              refine zw_3 zr_144_8 rfl ?_
              refine zw_18 zr_144_9 (by omega) ?_
              refine zw_16 zr_144_10 (by omega) ?_
              refine zw_3 zr_144_11 rfl ?_
              refine zw_16 zr_144_12 (by omega) ?_
              refine zw_48 (c := 70) (len := 826) zr_144_13 rfl rfl (by omega) (by omega) ?_
              intro x25 ex25
              have bx25 := ib_70_m3 hI0 (k := (((90 + (6 * i2)) + 3)).toNat) (by omega)
              rw [← ex25] at bx25
              have qx25 : x25 = F70 (((90 + (6 * i2)) + 3)).toNat := by rw [← hG70]; exact ex25
              refine zw_R zr_144_14 (by decide) zm_144 (v := (0, x25)) rfl ?_
              rw [← hQ1]
              show zW E (d) 197 76 [(2, 69), (0, a0), (0, a1), (0, i1), (0, i2), (9, 0)] [(0, x25)] m0 Q
              refine zw_40_4 zr_197_76 ?_ ?_
              · intro h26
                refine zw_push zr_197_83 ?_
                refine zw_10 (L' := [(2, 69), (0, a0), (0, a1), (0, i1), (0, i2), (0, 0)]) zr_197_84 (Nat.le_of_ble_eq_true rfl) rfl ?_
                refine zw_3 zr_197_86 rfl ?_
                refine zw_40_4 zr_197_87 ?_ ?_
                · intro h27
                  refine zw_push zr_197_105 ?_
                  refine zw_42 zr_197_106 ?_
                  refine zw_9 (L' := [(2, 69), (0, a0), (0, a1), (0, 1), (0, i2), (0, 0)]) zr_197_110 (Nat.le_of_ble_eq_true rfl) rfl ?_
                  refine zw_15 (c := 1) (L' := [(2, 69), (0, a0), (0, a1), (0, 1), (0, (i2 + 1)), (0, 0)]) zr_197_111 rfl (by decide) (by omega) rfl ?_
                  refine zw_42 zr_197_114 ?_
                  exact zw_less (L := [(2, 69), (0, a0), (0, a1), (0, 1), (0, (i2 + 1)), (9, 0)]) ⟨Or.inr rfl, Or.inr rfl, Or.inr rfl, Or.inr rfl, Or.inr rfl, Or.inl rfl, trivial⟩ (ihlp5_3 (1) ((i2 + 1))  (by omega) (by omega) (by omega) (by omega) (by omega) (by omega) (by omega))
                · intro h28
                  refine zw_4 zr_197_90 rfl ?_
                  refine zw_40_1 zr_197_92 ?_ ?_
                  · intro h29
                    refine zw_push zr_197_109 ?_
                    refine zw_9 (L' := [(2, 69), (0, a0), (0, a1), (0, 0), (0, i2), (0, 0)]) zr_197_110 (Nat.le_of_ble_eq_true rfl) rfl ?_
                    refine zw_15 (c := 1) (L' := [(2, 69), (0, a0), (0, a1), (0, 0), (0, (i2 + 1)), (0, 0)]) zr_197_111 rfl (by decide) (by omega) rfl ?_
                    refine zw_42 zr_197_114 ?_
                    exact zw_less (L := [(2, 69), (0, a0), (0, a1), (0, 0), (0, (i2 + 1)), (9, 0)]) ⟨Or.inr rfl, Or.inr rfl, Or.inr rfl, Or.inr rfl, Or.inr rfl, Or.inl rfl, trivial⟩ (ihlp5_3 (0) ((i2 + 1))  (by omega) (by omega) (by omega) (by omega) (by omega) (by omega) (by omega))
                  · intro h30; omega
              · intro h31
                refine zw_push zr_197_79 ?_
                refine zw_42 zr_197_80 ?_
                refine zw_10 (L' := [(2, 69), (0, a0), (0, a1), (0, i1), (0, i2), (0, 1)]) zr_197_84 (Nat.le_of_ble_eq_true rfl) rfl ?_
                refine zw_3 zr_197_86 rfl ?_
                refine zw_40_4 zr_197_87 ?_ ?_
                · intro h32
                  refine zw_push zr_197_105 ?_
                  refine zw_42 zr_197_106 ?_
                  refine zw_9 (L' := [(2, 69), (0, a0), (0, a1), (0, 1), (0, i2), (0, 1)]) zr_197_110 (Nat.le_of_ble_eq_true rfl) rfl ?_
                  refine zw_15 (c := 1) (L' := [(2, 69), (0, a0), (0, a1), (0, 1), (0, (i2 + 1)), (0, 1)]) zr_197_111 rfl (by decide) (by omega) rfl ?_
                  refine zw_42 zr_197_114 ?_
                  exact zw_less (L := [(2, 69), (0, a0), (0, a1), (0, 1), (0, (i2 + 1)), (9, 0)]) ⟨Or.inr rfl, Or.inr rfl, Or.inr rfl, Or.inr rfl, Or.inr rfl, Or.inl rfl, trivial⟩ (ihlp5_3 (1) ((i2 + 1))  (by omega) (by omega) (by omega) (by omega) (by omega) (by omega) (by omega))
                · intro h33
                  refine zw_4 zr_197_90 rfl ?_
                  refine zw_40_1 zr_197_92 ?_ ?_
                  · intro h34; omega
                  · intro h35
                    refine zw_7 zr_197_95 rfl ?_
                    refine zw_4 zr_197_96 rfl ?_
                    refine zw_push zr_197_98 ?_
                    refine zw_C zr_197_99 (Or.inl rfl) zm_144 rfl rfl ⟨Nat.le_of_ble_eq_true rfl, Nat.le_of_ble_eq_true rfl, Nat.le_of_ble_eq_true rfl, rfl, by decide⟩ (by omega) (P := (fun v m' => zW E (d) 197 102 [(2, 69), (0, a0), (0, a1), (0, i1), (0, i2), (0, 1)] (if v.1 = 9 then [] else v :: []) m' Q)) ?_ (fun _ _ h => h)
                    generalize hQ1 : (fun v m' => zW E (d) 197 102 [(2, 69), (0, a0), (0, a1), (0, i1), (0, i2), (0, 1)] (if v.1 = 9 then [] else v :: []) m' Q) = Q1
                    show zW E (d - 1) 144 0 [(2, 69), (0, i2), (0, 4)] [] m0 Q1
                    refine zw_7 zr_144_0 rfl ?_
                    refine zw_46r (s := 70) zr_144_1 rfl rfl rfl rfl ?_
                    refine zw_push zr_144_4 ?_
                    refine zw_push zr_144_6 ?_
                    refine zw_3 zr_144_8 rfl ?_
                    refine zw_18 zr_144_9 (by omega) ?_
                    refine zw_16 zr_144_10 (by omega) ?_
                    refine zw_3 zr_144_11 rfl ?_
                    refine zw_16 zr_144_12 (by omega) ?_
                    refine zw_48 (c := 70) (len := 826) zr_144_13 rfl rfl (by omega) (by omega) ?_
                    intro x36 ex36
                    have bx36 := ib_70_m4 hI0 (k := (((90 + (6 * i2)) + 4)).toNat) (by omega)
                    rw [← ex36] at bx36
                    have qx36 : x36 = F70 (((90 + (6 * i2)) + 4)).toNat := by rw [← hG70]; exact ex36
                    refine zw_R zr_144_14 (by decide) zm_144 (v := (0, x36)) rfl ?_
                    rw [← hQ1]
                    show zW E (d) 197 102 [(2, 69), (0, a0), (0, a1), (0, i1), (0, i2), (0, 1)] [(0, x36)] m0 Q
                    refine zw_40_4 zr_197_102 ?_ ?_
                    · intro h37
                      refine zw_push zr_197_109 ?_
                      refine zw_9 (L' := [(2, 69), (0, a0), (0, a1), (0, 0), (0, i2), (0, 1)]) zr_197_110 (Nat.le_of_ble_eq_true rfl) rfl ?_
                      refine zw_15 (c := 1) (L' := [(2, 69), (0, a0), (0, a1), (0, 0), (0, (i2 + 1)), (0, 1)]) zr_197_111 rfl (by decide) (by omega) rfl ?_
                      refine zw_42 zr_197_114 ?_
                      exact zw_less (L := [(2, 69), (0, a0), (0, a1), (0, 0), (0, (i2 + 1)), (9, 0)]) ⟨Or.inr rfl, Or.inr rfl, Or.inr rfl, Or.inr rfl, Or.inr rfl, Or.inl rfl, trivial⟩ (ihlp5_3 (0) ((i2 + 1))  (by omega) (by omega) (by omega) (by omega) (by omega) (by omega) (by omega))
                    · intro h38
                      refine zw_push zr_197_105 ?_
                      refine zw_42 zr_197_106 ?_
                      refine zw_9 (L' := [(2, 69), (0, a0), (0, a1), (0, 1), (0, i2), (0, 1)]) zr_197_110 (Nat.le_of_ble_eq_true rfl) rfl ?_
                      refine zw_15 (c := 1) (L' := [(2, 69), (0, a0), (0, a1), (0, 1), (0, (i2 + 1)), (0, 1)]) zr_197_111 rfl (by decide) (by omega) rfl ?_
                      refine zw_42 zr_197_114 ?_
                      exact zw_less (L := [(2, 69), (0, a0), (0, a1), (0, 1), (0, (i2 + 1)), (9, 0)]) ⟨Or.inr rfl, Or.inr rfl, Or.inr rfl, Or.inr rfl, Or.inr rfl, Or.inl rfl, trivial⟩ (ihlp5_3 (1) ((i2 + 1))  (by omega) (by omega) (by omega) (by omega) (by omega) (by omega) (by omega))
        · intro h39
          refine zw_7 zr_197_25 rfl ?_
          refine zw_4 zr_197_26 rfl ?_
          refine zw_push zr_197_28 ?_
          refine zw_C zr_197_29 (Or.inl rfl) zm_144 rfl rfl ⟨Nat.le_of_ble_eq_true rfl, Nat.le_of_ble_eq_true rfl, Nat.le_of_ble_eq_true rfl, rfl, by decide⟩ (by omega) (P := (fun v m' => zW E (d) 197 32 [(2, 69), (0, a0), (0, a1), (0, i1), (0, i2), (9, 0)] (if v.1 = 9 then [] else v :: []) m' Q)) ?_ (fun _ _ h => h)
          generalize hQ1 : (fun v m' => zW E (d) 197 32 [(2, 69), (0, a0), (0, a1), (0, i1), (0, i2), (9, 0)] (if v.1 = 9 then [] else v :: []) m' Q) = Q1
          show zW E (d - 1) 144 0 [(2, 69), (0, i2), (0, 2)] [] m0 Q1
          refine zw_7 zr_144_0 rfl ?_
          refine zw_46r (s := 70) zr_144_1 rfl rfl rfl rfl ?_
          refine zw_push zr_144_4 ?_
          refine zw_push zr_144_6 ?_
          refine zw_3 zr_144_8 rfl ?_
          refine zw_18 zr_144_9 (by omega) ?_
          refine zw_16 zr_144_10 (by omega) ?_
          refine zw_3 zr_144_11 rfl ?_
          refine zw_16 zr_144_12 (by omega) ?_
          refine zw_48 (c := 70) (len := 826) zr_144_13 rfl rfl (by omega) (by omega) ?_
          intro x40 ex40
          have bx40 := ib_70_m2 hI0 (k := (((90 + (6 * i2)) + 2)).toNat) (by omega)
          rw [← ex40] at bx40
          have qx40 : x40 = F70 (((90 + (6 * i2)) + 2)).toNat := by rw [← hG70]; exact ex40
          refine zw_R zr_144_14 (by decide) zm_144 (v := (0, x40)) rfl ?_
          rw [← hQ1]
          show zW E (d) 197 32 [(2, 69), (0, a0), (0, a1), (0, i1), (0, i2), (9, 0)] [(0, x40)] m0 Q
          refine zw_3 zr_197_32 rfl ?_
          refine zw_41_4 zr_197_33 ?_ ?_
          · intro h41
            refine zw_7 zr_197_47 rfl ?_
            refine zw_4 zr_197_48 rfl ?_
            refine zw_push zr_197_50 ?_
            refine zw_C zr_197_51 (Or.inl rfl) zm_144 rfl rfl ⟨Nat.le_of_ble_eq_true rfl, Nat.le_of_ble_eq_true rfl, Nat.le_of_ble_eq_true rfl, rfl, by decide⟩ (by omega) (P := (fun v m' => zW E (d) 197 54 [(2, 69), (0, a0), (0, a1), (0, i1), (0, i2), (9, 0)] (if v.1 = 9 then [] else v :: []) m' Q)) ?_ (fun _ _ h => h)
            generalize hQ1 : (fun v m' => zW E (d) 197 54 [(2, 69), (0, a0), (0, a1), (0, i1), (0, i2), (9, 0)] (if v.1 = 9 then [] else v :: []) m' Q) = Q1
            show zW E (d - 1) 144 0 [(2, 69), (0, i2), (0, 1)] [] m0 Q1
            refine zw_7 zr_144_0 rfl ?_
            refine zw_46r (s := 70) zr_144_1 rfl rfl rfl rfl ?_
            refine zw_push zr_144_4 ?_
            refine zw_push zr_144_6 ?_
            refine zw_3 zr_144_8 rfl ?_
            refine zw_18 zr_144_9 (by omega) ?_
            refine zw_16 zr_144_10 (by omega) ?_
            refine zw_3 zr_144_11 rfl ?_
            refine zw_16 zr_144_12 (by omega) ?_
            refine zw_48k (c := 70) (len := 826) zr_144_13 rfl rfl (by omega) (by omega) rfl ex10.symm ?_
            refine zw_R zr_144_14 (by decide) zm_144 (v := (0, x10)) rfl ?_
            rw [← hQ1]
            show zW E (d) 197 54 [(2, 69), (0, a0), (0, a1), (0, i1), (0, i2), (9, 0)] [(0, x10)] m0 Q
            refine zw_3 zr_197_54 rfl ?_
            refine zw_41_4 zr_197_55 ?_ ?_
            · intro h42
              refine zw_push zr_197_83 ?_
              refine zw_10 (L' := [(2, 69), (0, a0), (0, a1), (0, i1), (0, i2), (0, 0)]) zr_197_84 (Nat.le_of_ble_eq_true rfl) rfl ?_
              refine zw_3 zr_197_86 rfl ?_
              refine zw_40_4 zr_197_87 ?_ ?_
              · intro h43
                refine zw_push zr_197_105 ?_
                refine zw_42 zr_197_106 ?_
                refine zw_9 (L' := [(2, 69), (0, a0), (0, a1), (0, 1), (0, i2), (0, 0)]) zr_197_110 (Nat.le_of_ble_eq_true rfl) rfl ?_
                refine zw_15 (c := 1) (L' := [(2, 69), (0, a0), (0, a1), (0, 1), (0, (i2 + 1)), (0, 0)]) zr_197_111 rfl (by decide) (by omega) rfl ?_
                refine zw_42 zr_197_114 ?_
                exact zw_less (L := [(2, 69), (0, a0), (0, a1), (0, 1), (0, (i2 + 1)), (9, 0)]) ⟨Or.inr rfl, Or.inr rfl, Or.inr rfl, Or.inr rfl, Or.inr rfl, Or.inl rfl, trivial⟩ (ihlp5_3 (1) ((i2 + 1))  (by omega) (by omega) (by omega) (by omega) (by omega) (by omega) (by omega))
              · intro h44
                refine zw_4 zr_197_90 rfl ?_
                refine zw_40_1 zr_197_92 ?_ ?_
                · intro h45
                  refine zw_push zr_197_109 ?_
                  refine zw_9 (L' := [(2, 69), (0, a0), (0, a1), (0, 0), (0, i2), (0, 0)]) zr_197_110 (Nat.le_of_ble_eq_true rfl) rfl ?_
                  refine zw_15 (c := 1) (L' := [(2, 69), (0, a0), (0, a1), (0, 0), (0, (i2 + 1)), (0, 0)]) zr_197_111 rfl (by decide) (by omega) rfl ?_
                  refine zw_42 zr_197_114 ?_
                  exact zw_less (L := [(2, 69), (0, a0), (0, a1), (0, 0), (0, (i2 + 1)), (9, 0)]) ⟨Or.inr rfl, Or.inr rfl, Or.inr rfl, Or.inr rfl, Or.inr rfl, Or.inl rfl, trivial⟩ (ihlp5_3 (0) ((i2 + 1))  (by omega) (by omega) (by omega) (by omega) (by omega) (by omega) (by omega))
                · intro h46; omega
            · intro h47
              refine zw_7 zr_197_58 rfl ?_
              refine zw_4 zr_197_59 rfl ?_
              refine zw_push zr_197_61 ?_
              refine zw_C zr_197_62 (Or.inl rfl) zm_144 rfl rfl ⟨Nat.le_of_ble_eq_true rfl, Nat.le_of_ble_eq_true rfl, Nat.le_of_ble_eq_true rfl, rfl, by decide⟩ (by omega) (P := (fun v m' => zW E (d) 197 65 [(2, 69), (0, a0), (0, a1), (0, i1), (0, i2), (9, 0)] (if v.1 = 9 then [] else v :: []) m' Q)) ?_ (fun _ _ h => h)
              generalize hQ1 : (fun v m' => zW E (d) 197 65 [(2, 69), (0, a0), (0, a1), (0, i1), (0, i2), (9, 0)] (if v.1 = 9 then [] else v :: []) m' Q) = Q1
              show zW E (d - 1) 144 0 [(2, 69), (0, i2), (0, 2)] [] m0 Q1
              refine zw_7 zr_144_0 rfl ?_
              refine zw_46r (s := 70) zr_144_1 rfl rfl rfl rfl ?_
              refine zw_push zr_144_4 ?_
              refine zw_push zr_144_6 ?_
              refine zw_3 zr_144_8 rfl ?_
              refine zw_18 zr_144_9 (by omega) ?_
              refine zw_16 zr_144_10 (by omega) ?_
              refine zw_3 zr_144_11 rfl ?_
              refine zw_16 zr_144_12 (by omega) ?_
              refine zw_48k (c := 70) (len := 826) zr_144_13 rfl rfl (by omega) (by omega) rfl ex40.symm ?_
              refine zw_R zr_144_14 (by decide) zm_144 (v := (0, x40)) rfl ?_
              rw [← hQ1]
              show zW E (d) 197 65 [(2, 69), (0, a0), (0, a1), (0, i1), (0, i2), (9, 0)] [(0, x40)] m0 Q
              refine zw_3 zr_197_65 rfl ?_
              refine zw_41_4 zr_197_66 ?_ ?_
              · intro h48
                refine zw_push zr_197_83 ?_
                refine zw_10 (L' := [(2, 69), (0, a0), (0, a1), (0, i1), (0, i2), (0, 0)]) zr_197_84 (Nat.le_of_ble_eq_true rfl) rfl ?_
                refine zw_3 zr_197_86 rfl ?_
                refine zw_40_4 zr_197_87 ?_ ?_
                · intro h49
                  refine zw_push zr_197_105 ?_
                  refine zw_42 zr_197_106 ?_
                  refine zw_9 (L' := [(2, 69), (0, a0), (0, a1), (0, 1), (0, i2), (0, 0)]) zr_197_110 (Nat.le_of_ble_eq_true rfl) rfl ?_
                  refine zw_15 (c := 1) (L' := [(2, 69), (0, a0), (0, a1), (0, 1), (0, (i2 + 1)), (0, 0)]) zr_197_111 rfl (by decide) (by omega) rfl ?_
                  refine zw_42 zr_197_114 ?_
                  exact zw_less (L := [(2, 69), (0, a0), (0, a1), (0, 1), (0, (i2 + 1)), (9, 0)]) ⟨Or.inr rfl, Or.inr rfl, Or.inr rfl, Or.inr rfl, Or.inr rfl, Or.inl rfl, trivial⟩ (ihlp5_3 (1) ((i2 + 1))  (by omega) (by omega) (by omega) (by omega) (by omega) (by omega) (by omega))
                · intro h50
                  refine zw_4 zr_197_90 rfl ?_
                  refine zw_40_1 zr_197_92 ?_ ?_
                  · intro h51
                    refine zw_push zr_197_109 ?_
                    refine zw_9 (L' := [(2, 69), (0, a0), (0, a1), (0, 0), (0, i2), (0, 0)]) zr_197_110 (Nat.le_of_ble_eq_true rfl) rfl ?_
                    refine zw_15 (c := 1) (L' := [(2, 69), (0, a0), (0, a1), (0, 0), (0, (i2 + 1)), (0, 0)]) zr_197_111 rfl (by decide) (by omega) rfl ?_
                    refine zw_42 zr_197_114 ?_
                    exact zw_less (L := [(2, 69), (0, a0), (0, a1), (0, 0), (0, (i2 + 1)), (9, 0)]) ⟨Or.inr rfl, Or.inr rfl, Or.inr rfl, Or.inr rfl, Or.inr rfl, Or.inl rfl, trivial⟩ (ihlp5_3 (0) ((i2 + 1))  (by omega) (by omega) (by omega) (by omega) (by omega) (by omega) (by omega))
                  · intro h52; omega
              · intro h53
                refine zw_7 zr_197_69 rfl ?_
                refine zw_4 zr_197_70 rfl ?_
                refine zw_push zr_197_72 ?_
                refine zw_C zr_197_73 (Or.inl rfl) zm_144 rfl rfl ⟨Nat.le_of_ble_eq_true rfl, Nat.le_of_ble_eq_true rfl, Nat.le_of_ble_eq_true rfl, rfl, by decide⟩ (by omega) (P := (fun v m' => zW E (d) 197 76 [(2, 69), (0, a0), (0, a1), (0, i1), (0, i2), (9, 0)] (if v.1 = 9 then [] else v :: []) m' Q)) ?_ (fun _ _ h => h)
                generalize hQ1 : (fun v m' => zW E (d) 197 76 [(2, 69), (0, a0), (0, a1), (0, i1), (0, i2), (9, 0)] (if v.1 = 9 then [] else v :: []) m' Q) = Q1
                show zW E (d - 1) 144 0 [(2, 69), (0, i2), (0, 3)] [] m0 Q1
                refine zw_7 zr_144_0 rfl ?_
                refine zw_46r (s := 70) zr_144_1 rfl rfl rfl rfl ?_
                refine zw_push zr_144_4 ?_
                refine zw_push zr_144_6 ?_
                refine zw_3 zr_144_8 rfl ?_
                refine zw_18 zr_144_9 (by omega) ?_
                refine zw_16 zr_144_10 (by omega) ?_
                refine zw_3 zr_144_11 rfl ?_
                refine zw_16 zr_144_12 (by omega) ?_
                refine zw_48 (c := 70) (len := 826) zr_144_13 rfl rfl (by omega) (by omega) ?_
                intro x54 ex54
                have bx54 := ib_70_m3 hI0 (k := (((90 + (6 * i2)) + 3)).toNat) (by omega)
                rw [← ex54] at bx54
                have qx54 : x54 = F70 (((90 + (6 * i2)) + 3)).toNat := by rw [← hG70]; exact ex54
                refine zw_R zr_144_14 (by decide) zm_144 (v := (0, x54)) rfl ?_
                rw [← hQ1]
                show zW E (d) 197 76 [(2, 69), (0, a0), (0, a1), (0, i1), (0, i2), (9, 0)] [(0, x54)] m0 Q
                refine zw_40_4 zr_197_76 ?_ ?_
                · intro h55
                  refine zw_push zr_197_83 ?_
                  refine zw_10 (L' := [(2, 69), (0, a0), (0, a1), (0, i1), (0, i2), (0, 0)]) zr_197_84 (Nat.le_of_ble_eq_true rfl) rfl ?_
                  refine zw_3 zr_197_86 rfl ?_
                  refine zw_40_4 zr_197_87 ?_ ?_
                  · intro h56
                    refine zw_push zr_197_105 ?_
                    refine zw_42 zr_197_106 ?_
                    refine zw_9 (L' := [(2, 69), (0, a0), (0, a1), (0, 1), (0, i2), (0, 0)]) zr_197_110 (Nat.le_of_ble_eq_true rfl) rfl ?_
                    refine zw_15 (c := 1) (L' := [(2, 69), (0, a0), (0, a1), (0, 1), (0, (i2 + 1)), (0, 0)]) zr_197_111 rfl (by decide) (by omega) rfl ?_
                    refine zw_42 zr_197_114 ?_
                    exact zw_less (L := [(2, 69), (0, a0), (0, a1), (0, 1), (0, (i2 + 1)), (9, 0)]) ⟨Or.inr rfl, Or.inr rfl, Or.inr rfl, Or.inr rfl, Or.inr rfl, Or.inl rfl, trivial⟩ (ihlp5_3 (1) ((i2 + 1))  (by omega) (by omega) (by omega) (by omega) (by omega) (by omega) (by omega))
                  · intro h57
                    refine zw_4 zr_197_90 rfl ?_
                    refine zw_40_1 zr_197_92 ?_ ?_
                    · intro h58
                      refine zw_push zr_197_109 ?_
                      refine zw_9 (L' := [(2, 69), (0, a0), (0, a1), (0, 0), (0, i2), (0, 0)]) zr_197_110 (Nat.le_of_ble_eq_true rfl) rfl ?_
                      refine zw_15 (c := 1) (L' := [(2, 69), (0, a0), (0, a1), (0, 0), (0, (i2 + 1)), (0, 0)]) zr_197_111 rfl (by decide) (by omega) rfl ?_
                      refine zw_42 zr_197_114 ?_
                      exact zw_less (L := [(2, 69), (0, a0), (0, a1), (0, 0), (0, (i2 + 1)), (9, 0)]) ⟨Or.inr rfl, Or.inr rfl, Or.inr rfl, Or.inr rfl, Or.inr rfl, Or.inl rfl, trivial⟩ (ihlp5_3 (0) ((i2 + 1))  (by omega) (by omega) (by omega) (by omega) (by omega) (by omega) (by omega))
                    · intro h59; omega
                · intro h60
                  refine zw_push zr_197_79 ?_
                  refine zw_42 zr_197_80 ?_
                  refine zw_10 (L' := [(2, 69), (0, a0), (0, a1), (0, i1), (0, i2), (0, 1)]) zr_197_84 (Nat.le_of_ble_eq_true rfl) rfl ?_
                  refine zw_3 zr_197_86 rfl ?_
                  refine zw_40_4 zr_197_87 ?_ ?_
                  · intro h61
                    refine zw_push zr_197_105 ?_
                    refine zw_42 zr_197_106 ?_
                    refine zw_9 (L' := [(2, 69), (0, a0), (0, a1), (0, 1), (0, i2), (0, 1)]) zr_197_110 (Nat.le_of_ble_eq_true rfl) rfl ?_
                    refine zw_15 (c := 1) (L' := [(2, 69), (0, a0), (0, a1), (0, 1), (0, (i2 + 1)), (0, 1)]) zr_197_111 rfl (by decide) (by omega) rfl ?_
                    refine zw_42 zr_197_114 ?_
                    exact zw_less (L := [(2, 69), (0, a0), (0, a1), (0, 1), (0, (i2 + 1)), (9, 0)]) ⟨Or.inr rfl, Or.inr rfl, Or.inr rfl, Or.inr rfl, Or.inr rfl, Or.inl rfl, trivial⟩ (ihlp5_3 (1) ((i2 + 1))  (by omega) (by omega) (by omega) (by omega) (by omega) (by omega) (by omega))
                  · intro h62
                    refine zw_4 zr_197_90 rfl ?_
                    refine zw_40_1 zr_197_92 ?_ ?_
                    · intro h63; omega
                    · intro h64
                      refine zw_7 zr_197_95 rfl ?_
                      refine zw_4 zr_197_96 rfl ?_
                      refine zw_push zr_197_98 ?_
                      refine zw_C zr_197_99 (Or.inl rfl) zm_144 rfl rfl ⟨Nat.le_of_ble_eq_true rfl, Nat.le_of_ble_eq_true rfl, Nat.le_of_ble_eq_true rfl, rfl, by decide⟩ (by omega) (P := (fun v m' => zW E (d) 197 102 [(2, 69), (0, a0), (0, a1), (0, i1), (0, i2), (0, 1)] (if v.1 = 9 then [] else v :: []) m' Q)) ?_ (fun _ _ h => h)
                      generalize hQ1 : (fun v m' => zW E (d) 197 102 [(2, 69), (0, a0), (0, a1), (0, i1), (0, i2), (0, 1)] (if v.1 = 9 then [] else v :: []) m' Q) = Q1
                      show zW E (d - 1) 144 0 [(2, 69), (0, i2), (0, 4)] [] m0 Q1
                      refine zw_7 zr_144_0 rfl ?_
                      refine zw_46r (s := 70) zr_144_1 rfl rfl rfl rfl ?_
                      refine zw_push zr_144_4 ?_
                      refine zw_push zr_144_6 ?_
                      refine zw_3 zr_144_8 rfl ?_
                      refine zw_18 zr_144_9 (by omega) ?_
                      refine zw_16 zr_144_10 (by omega) ?_
                      refine zw_3 zr_144_11 rfl ?_
                      refine zw_16 zr_144_12 (by omega) ?_
                      refine zw_48 (c := 70) (len := 826) zr_144_13 rfl rfl (by omega) (by omega) ?_
                      intro x65 ex65
                      have bx65 := ib_70_m4 hI0 (k := (((90 + (6 * i2)) + 4)).toNat) (by omega)
                      rw [← ex65] at bx65
                      have qx65 : x65 = F70 (((90 + (6 * i2)) + 4)).toNat := by rw [← hG70]; exact ex65
                      refine zw_R zr_144_14 (by decide) zm_144 (v := (0, x65)) rfl ?_
                      rw [← hQ1]
                      show zW E (d) 197 102 [(2, 69), (0, a0), (0, a1), (0, i1), (0, i2), (0, 1)] [(0, x65)] m0 Q
                      refine zw_40_4 zr_197_102 ?_ ?_
                      · intro h66
                        refine zw_push zr_197_109 ?_
                        refine zw_9 (L' := [(2, 69), (0, a0), (0, a1), (0, 0), (0, i2), (0, 1)]) zr_197_110 (Nat.le_of_ble_eq_true rfl) rfl ?_
                        refine zw_15 (c := 1) (L' := [(2, 69), (0, a0), (0, a1), (0, 0), (0, (i2 + 1)), (0, 1)]) zr_197_111 rfl (by decide) (by omega) rfl ?_
                        refine zw_42 zr_197_114 ?_
                        exact zw_less (L := [(2, 69), (0, a0), (0, a1), (0, 0), (0, (i2 + 1)), (9, 0)]) ⟨Or.inr rfl, Or.inr rfl, Or.inr rfl, Or.inr rfl, Or.inr rfl, Or.inl rfl, trivial⟩ (ihlp5_3 (0) ((i2 + 1))  (by omega) (by omega) (by omega) (by omega) (by omega) (by omega) (by omega))
                      · intro h67
                        refine zw_push zr_197_105 ?_
                        refine zw_42 zr_197_106 ?_
                        refine zw_9 (L' := [(2, 69), (0, a0), (0, a1), (0, 1), (0, i2), (0, 1)]) zr_197_110 (Nat.le_of_ble_eq_true rfl) rfl ?_
                        refine zw_15 (c := 1) (L' := [(2, 69), (0, a0), (0, a1), (0, 1), (0, (i2 + 1)), (0, 1)]) zr_197_111 rfl (by decide) (by omega) rfl ?_
                        refine zw_42 zr_197_114 ?_
                        exact zw_less (L := [(2, 69), (0, a0), (0, a1), (0, 1), (0, (i2 + 1)), (9, 0)]) ⟨Or.inr rfl, Or.inr rfl, Or.inr rfl, Or.inr rfl, Or.inr rfl, Or.inl rfl, trivial⟩ (ihlp5_3 (1) ((i2 + 1))  (by omega) (by omega) (by omega) (by omega) (by omega) (by omega) (by omega))
          · intro h68
            refine zw_7 zr_197_36 rfl ?_
            refine zw_4 zr_197_37 rfl ?_
            refine zw_push zr_197_39 ?_
            refine zw_C zr_197_40 (Or.inl rfl) zm_144 rfl rfl ⟨Nat.le_of_ble_eq_true rfl, Nat.le_of_ble_eq_true rfl, Nat.le_of_ble_eq_true rfl, rfl, by decide⟩ (by omega) (P := (fun v m' => zW E (d) 197 43 [(2, 69), (0, a0), (0, a1), (0, i1), (0, i2), (9, 0)] (if v.1 = 9 then [] else v :: []) m' Q)) ?_ (fun _ _ h => h)
            generalize hQ1 : (fun v m' => zW E (d) 197 43 [(2, 69), (0, a0), (0, a1), (0, i1), (0, i2), (9, 0)] (if v.1 = 9 then [] else v :: []) m' Q) = Q1
            show zW E (d - 1) 144 0 [(2, 69), (0, i2), (0, 3)] [] m0 Q1
            refine zw_7 zr_144_0 rfl ?_
            refine zw_46r (s := 70) zr_144_1 rfl rfl rfl rfl ?_
            refine zw_push zr_144_4 ?_
            refine zw_push zr_144_6 ?_
            refine zw_3 zr_144_8 rfl ?_
            refine zw_18 zr_144_9 (by omega) ?_
            refine zw_16 zr_144_10 (by omega) ?_
            refine zw_3 zr_144_11 rfl ?_
            refine zw_16 zr_144_12 (by omega) ?_
            refine zw_48 (c := 70) (len := 826) zr_144_13 rfl rfl (by omega) (by omega) ?_
            intro x69 ex69
            have bx69 := ib_70_m3 hI0 (k := (((90 + (6 * i2)) + 3)).toNat) (by omega)
            rw [← ex69] at bx69
            have qx69 : x69 = F70 (((90 + (6 * i2)) + 3)).toNat := by rw [← hG70]; exact ex69
            refine zw_R zr_144_14 (by decide) zm_144 (v := (0, x69)) rfl ?_
            rw [← hQ1]
            show zW E (d) 197 43 [(2, 69), (0, a0), (0, a1), (0, i1), (0, i2), (9, 0)] [(0, x69)] m0 Q
            refine zw_push zr_197_43 ?_
            refine zw_41_1 zr_197_44 ?_ ?_
            · intro h70
              refine zw_push zr_197_79 ?_
              refine zw_42 zr_197_80 ?_
              refine zw_10 (L' := [(2, 69), (0, a0), (0, a1), (0, i1), (0, i2), (0, 1)]) zr_197_84 (Nat.le_of_ble_eq_true rfl) rfl ?_
              refine zw_3 zr_197_86 rfl ?_
              refine zw_40_4 zr_197_87 ?_ ?_
              · intro h71
                refine zw_push zr_197_105 ?_
                refine zw_42 zr_197_106 ?_
                refine zw_9 (L' := [(2, 69), (0, a0), (0, a1), (0, 1), (0, i2), (0, 1)]) zr_197_110 (Nat.le_of_ble_eq_true rfl) rfl ?_
                refine zw_15 (c := 1) (L' := [(2, 69), (0, a0), (0, a1), (0, 1), (0, (i2 + 1)), (0, 1)]) zr_197_111 rfl (by decide) (by omega) rfl ?_
                refine zw_42 zr_197_114 ?_
                exact zw_less (L := [(2, 69), (0, a0), (0, a1), (0, 1), (0, (i2 + 1)), (9, 0)]) ⟨Or.inr rfl, Or.inr rfl, Or.inr rfl, Or.inr rfl, Or.inr rfl, Or.inl rfl, trivial⟩ (ihlp5_3 (1) ((i2 + 1))  (by omega) (by omega) (by omega) (by omega) (by omega) (by omega) (by omega))
              · intro h72
                refine zw_4 zr_197_90 rfl ?_
                refine zw_40_1 zr_197_92 ?_ ?_
                · intro h73; omega
                · intro h74
                  refine zw_7 zr_197_95 rfl ?_
                  refine zw_4 zr_197_96 rfl ?_
                  refine zw_push zr_197_98 ?_
                  refine zw_C zr_197_99 (Or.inl rfl) zm_144 rfl rfl ⟨Nat.le_of_ble_eq_true rfl, Nat.le_of_ble_eq_true rfl, Nat.le_of_ble_eq_true rfl, rfl, by decide⟩ (by omega) (P := (fun v m' => zW E (d) 197 102 [(2, 69), (0, a0), (0, a1), (0, i1), (0, i2), (0, 1)] (if v.1 = 9 then [] else v :: []) m' Q)) ?_ (fun _ _ h => h)
                  generalize hQ1 : (fun v m' => zW E (d) 197 102 [(2, 69), (0, a0), (0, a1), (0, i1), (0, i2), (0, 1)] (if v.1 = 9 then [] else v :: []) m' Q) = Q1
                  show zW E (d - 1) 144 0 [(2, 69), (0, i2), (0, 4)] [] m0 Q1
                  refine zw_7 zr_144_0 rfl ?_
                  refine zw_46r (s := 70) zr_144_1 rfl rfl rfl rfl ?_
                  refine zw_push zr_144_4 ?_
                  refine zw_push zr_144_6 ?_
                  refine zw_3 zr_144_8 rfl ?_
                  refine zw_18 zr_144_9 (by omega) ?_
                  refine zw_16 zr_144_10 (by omega) ?_
                  refine zw_3 zr_144_11 rfl ?_
                  refine zw_16 zr_144_12 (by omega) ?_
                  refine zw_48 (c := 70) (len := 826) zr_144_13 rfl rfl (by omega) (by omega) ?_
                  intro x75 ex75
                  have bx75 := ib_70_m4 hI0 (k := (((90 + (6 * i2)) + 4)).toNat) (by omega)
                  rw [← ex75] at bx75
                  have qx75 : x75 = F70 (((90 + (6 * i2)) + 4)).toNat := by rw [← hG70]; exact ex75
                  refine zw_R zr_144_14 (by decide) zm_144 (v := (0, x75)) rfl ?_
                  rw [← hQ1]
                  show zW E (d) 197 102 [(2, 69), (0, a0), (0, a1), (0, i1), (0, i2), (0, 1)] [(0, x75)] m0 Q
                  refine zw_40_4 zr_197_102 ?_ ?_
                  · intro h76
                    refine zw_push zr_197_109 ?_
                    refine zw_9 (L' := [(2, 69), (0, a0), (0, a1), (0, 0), (0, i2), (0, 1)]) zr_197_110 (Nat.le_of_ble_eq_true rfl) rfl ?_
                    refine zw_15 (c := 1) (L' := [(2, 69), (0, a0), (0, a1), (0, 0), (0, (i2 + 1)), (0, 1)]) zr_197_111 rfl (by decide) (by omega) rfl ?_
                    refine zw_42 zr_197_114 ?_
                    exact zw_less (L := [(2, 69), (0, a0), (0, a1), (0, 0), (0, (i2 + 1)), (9, 0)]) ⟨Or.inr rfl, Or.inr rfl, Or.inr rfl, Or.inr rfl, Or.inr rfl, Or.inl rfl, trivial⟩ (ihlp5_3 (0) ((i2 + 1))  (by omega) (by omega) (by omega) (by omega) (by omega) (by omega) (by omega))
                  · intro h77
                    refine zw_push zr_197_105 ?_
                    refine zw_42 zr_197_106 ?_
                    refine zw_9 (L' := [(2, 69), (0, a0), (0, a1), (0, 1), (0, i2), (0, 1)]) zr_197_110 (Nat.le_of_ble_eq_true rfl) rfl ?_
                    refine zw_15 (c := 1) (L' := [(2, 69), (0, a0), (0, a1), (0, 1), (0, (i2 + 1)), (0, 1)]) zr_197_111 rfl (by decide) (by omega) rfl ?_
                    refine zw_42 zr_197_114 ?_
                    exact zw_less (L := [(2, 69), (0, a0), (0, a1), (0, 1), (0, (i2 + 1)), (9, 0)]) ⟨Or.inr rfl, Or.inr rfl, Or.inr rfl, Or.inr rfl, Or.inr rfl, Or.inl rfl, trivial⟩ (ihlp5_3 (1) ((i2 + 1))  (by omega) (by omega) (by omega) (by omega) (by omega) (by omega) (by omega))
            · intro h78
              refine zw_7 zr_197_47 rfl ?_
              refine zw_4 zr_197_48 rfl ?_
              refine zw_push zr_197_50 ?_
              refine zw_C zr_197_51 (Or.inl rfl) zm_144 rfl rfl ⟨Nat.le_of_ble_eq_true rfl, Nat.le_of_ble_eq_true rfl, Nat.le_of_ble_eq_true rfl, rfl, by decide⟩ (by omega) (P := (fun v m' => zW E (d) 197 54 [(2, 69), (0, a0), (0, a1), (0, i1), (0, i2), (9, 0)] (if v.1 = 9 then [] else v :: []) m' Q)) ?_ (fun _ _ h => h)
              generalize hQ1 : (fun v m' => zW E (d) 197 54 [(2, 69), (0, a0), (0, a1), (0, i1), (0, i2), (9, 0)] (if v.1 = 9 then [] else v :: []) m' Q) = Q1
              show zW E (d - 1) 144 0 [(2, 69), (0, i2), (0, 1)] [] m0 Q1
              refine zw_7 zr_144_0 rfl ?_
              refine zw_46r (s := 70) zr_144_1 rfl rfl rfl rfl ?_
              refine zw_push zr_144_4 ?_
              refine zw_push zr_144_6 ?_
              refine zw_3 zr_144_8 rfl ?_
              refine zw_18 zr_144_9 (by omega) ?_
              refine zw_16 zr_144_10 (by omega) ?_
              refine zw_3 zr_144_11 rfl ?_
              refine zw_16 zr_144_12 (by omega) ?_
              refine zw_48k (c := 70) (len := 826) zr_144_13 rfl rfl (by omega) (by omega) rfl ex10.symm ?_
              refine zw_R zr_144_14 (by decide) zm_144 (v := (0, x10)) rfl ?_
              rw [← hQ1]
              show zW E (d) 197 54 [(2, 69), (0, a0), (0, a1), (0, i1), (0, i2), (9, 0)] [(0, x10)] m0 Q
              refine zw_3 zr_197_54 rfl ?_
              refine zw_41_4 zr_197_55 ?_ ?_
              · intro h79
                refine zw_push zr_197_83 ?_
                refine zw_10 (L' := [(2, 69), (0, a0), (0, a1), (0, i1), (0, i2), (0, 0)]) zr_197_84 (Nat.le_of_ble_eq_true rfl) rfl ?_
                refine zw_3 zr_197_86 rfl ?_
                refine zw_40_4 zr_197_87 ?_ ?_
                · intro h80
                  refine zw_push zr_197_105 ?_
                  refine zw_42 zr_197_106 ?_
                  refine zw_9 (L' := [(2, 69), (0, a0), (0, a1), (0, 1), (0, i2), (0, 0)]) zr_197_110 (Nat.le_of_ble_eq_true rfl) rfl ?_
                  refine zw_15 (c := 1) (L' := [(2, 69), (0, a0), (0, a1), (0, 1), (0, (i2 + 1)), (0, 0)]) zr_197_111 rfl (by decide) (by omega) rfl ?_
                  refine zw_42 zr_197_114 ?_
                  exact zw_less (L := [(2, 69), (0, a0), (0, a1), (0, 1), (0, (i2 + 1)), (9, 0)]) ⟨Or.inr rfl, Or.inr rfl, Or.inr rfl, Or.inr rfl, Or.inr rfl, Or.inl rfl, trivial⟩ (ihlp5_3 (1) ((i2 + 1))  (by omega) (by omega) (by omega) (by omega) (by omega) (by omega) (by omega))
                · intro h81
                  refine zw_4 zr_197_90 rfl ?_
                  refine zw_40_1 zr_197_92 ?_ ?_
                  · intro h82
                    refine zw_push zr_197_109 ?_
                    refine zw_9 (L' := [(2, 69), (0, a0), (0, a1), (0, 0), (0, i2), (0, 0)]) zr_197_110 (Nat.le_of_ble_eq_true rfl) rfl ?_
                    refine zw_15 (c := 1) (L' := [(2, 69), (0, a0), (0, a1), (0, 0), (0, (i2 + 1)), (0, 0)]) zr_197_111 rfl (by decide) (by omega) rfl ?_
                    refine zw_42 zr_197_114 ?_
                    exact zw_less (L := [(2, 69), (0, a0), (0, a1), (0, 0), (0, (i2 + 1)), (9, 0)]) ⟨Or.inr rfl, Or.inr rfl, Or.inr rfl, Or.inr rfl, Or.inr rfl, Or.inl rfl, trivial⟩ (ihlp5_3 (0) ((i2 + 1))  (by omega) (by omega) (by omega) (by omega) (by omega) (by omega) (by omega))
                  · intro h83; omega
              · intro h84
                refine zw_7 zr_197_58 rfl ?_
                refine zw_4 zr_197_59 rfl ?_
                refine zw_push zr_197_61 ?_
                refine zw_C zr_197_62 (Or.inl rfl) zm_144 rfl rfl ⟨Nat.le_of_ble_eq_true rfl, Nat.le_of_ble_eq_true rfl, Nat.le_of_ble_eq_true rfl, rfl, by decide⟩ (by omega) (P := (fun v m' => zW E (d) 197 65 [(2, 69), (0, a0), (0, a1), (0, i1), (0, i2), (9, 0)] (if v.1 = 9 then [] else v :: []) m' Q)) ?_ (fun _ _ h => h)
                generalize hQ1 : (fun v m' => zW E (d) 197 65 [(2, 69), (0, a0), (0, a1), (0, i1), (0, i2), (9, 0)] (if v.1 = 9 then [] else v :: []) m' Q) = Q1
                show zW E (d - 1) 144 0 [(2, 69), (0, i2), (0, 2)] [] m0 Q1
                refine zw_7 zr_144_0 rfl ?_
                refine zw_46r (s := 70) zr_144_1 rfl rfl rfl rfl ?_
                refine zw_push zr_144_4 ?_
                refine zw_push zr_144_6 ?_
                refine zw_3 zr_144_8 rfl ?_
                refine zw_18 zr_144_9 (by omega) ?_
                refine zw_16 zr_144_10 (by omega) ?_
                refine zw_3 zr_144_11 rfl ?_
                refine zw_16 zr_144_12 (by omega) ?_
                refine zw_48k (c := 70) (len := 826) zr_144_13 rfl rfl (by omega) (by omega) rfl ex40.symm ?_
                refine zw_R zr_144_14 (by decide) zm_144 (v := (0, x40)) rfl ?_
                rw [← hQ1]
                show zW E (d) 197 65 [(2, 69), (0, a0), (0, a1), (0, i1), (0, i2), (9, 0)] [(0, x40)] m0 Q
                refine zw_3 zr_197_65 rfl ?_
                refine zw_41_4 zr_197_66 ?_ ?_
                · intro h85
                  refine zw_push zr_197_83 ?_
                  refine zw_10 (L' := [(2, 69), (0, a0), (0, a1), (0, i1), (0, i2), (0, 0)]) zr_197_84 (Nat.le_of_ble_eq_true rfl) rfl ?_
                  refine zw_3 zr_197_86 rfl ?_
                  refine zw_40_4 zr_197_87 ?_ ?_
                  · intro h86
                    refine zw_push zr_197_105 ?_
                    refine zw_42 zr_197_106 ?_
                    refine zw_9 (L' := [(2, 69), (0, a0), (0, a1), (0, 1), (0, i2), (0, 0)]) zr_197_110 (Nat.le_of_ble_eq_true rfl) rfl ?_
                    refine zw_15 (c := 1) (L' := [(2, 69), (0, a0), (0, a1), (0, 1), (0, (i2 + 1)), (0, 0)]) zr_197_111 rfl (by decide) (by omega) rfl ?_
                    refine zw_42 zr_197_114 ?_
                    exact zw_less (L := [(2, 69), (0, a0), (0, a1), (0, 1), (0, (i2 + 1)), (9, 0)]) ⟨Or.inr rfl, Or.inr rfl, Or.inr rfl, Or.inr rfl, Or.inr rfl, Or.inl rfl, trivial⟩ (ihlp5_3 (1) ((i2 + 1))  (by omega) (by omega) (by omega) (by omega) (by omega) (by omega) (by omega))
                  · intro h87
                    refine zw_4 zr_197_90 rfl ?_
                    refine zw_40_1 zr_197_92 ?_ ?_
                    · intro h88
                      refine zw_push zr_197_109 ?_
                      refine zw_9 (L' := [(2, 69), (0, a0), (0, a1), (0, 0), (0, i2), (0, 0)]) zr_197_110 (Nat.le_of_ble_eq_true rfl) rfl ?_
                      refine zw_15 (c := 1) (L' := [(2, 69), (0, a0), (0, a1), (0, 0), (0, (i2 + 1)), (0, 0)]) zr_197_111 rfl (by decide) (by omega) rfl ?_
                      refine zw_42 zr_197_114 ?_
                      exact zw_less (L := [(2, 69), (0, a0), (0, a1), (0, 0), (0, (i2 + 1)), (9, 0)]) ⟨Or.inr rfl, Or.inr rfl, Or.inr rfl, Or.inr rfl, Or.inr rfl, Or.inl rfl, trivial⟩ (ihlp5_3 (0) ((i2 + 1))  (by omega) (by omega) (by omega) (by omega) (by omega) (by omega) (by omega))
                    · intro h89; omega
                · intro h90
                  refine zw_7 zr_197_69 rfl ?_
                  refine zw_4 zr_197_70 rfl ?_
                  refine zw_push zr_197_72 ?_
                  refine zw_C zr_197_73 (Or.inl rfl) zm_144 rfl rfl ⟨Nat.le_of_ble_eq_true rfl, Nat.le_of_ble_eq_true rfl, Nat.le_of_ble_eq_true rfl, rfl, by decide⟩ (by omega) (P := (fun v m' => zW E (d) 197 76 [(2, 69), (0, a0), (0, a1), (0, i1), (0, i2), (9, 0)] (if v.1 = 9 then [] else v :: []) m' Q)) ?_ (fun _ _ h => h)
                  generalize hQ1 : (fun v m' => zW E (d) 197 76 [(2, 69), (0, a0), (0, a1), (0, i1), (0, i2), (9, 0)] (if v.1 = 9 then [] else v :: []) m' Q) = Q1
                  show zW E (d - 1) 144 0 [(2, 69), (0, i2), (0, 3)] [] m0 Q1
                  refine zw_7 zr_144_0 rfl ?_
                  refine zw_46r (s := 70) zr_144_1 rfl rfl rfl rfl ?_
                  refine zw_push zr_144_4 ?_
                  refine zw_push zr_144_6 ?_
                  refine zw_3 zr_144_8 rfl ?_
                  refine zw_18 zr_144_9 (by omega) ?_
                  refine zw_16 zr_144_10 (by omega) ?_
                  refine zw_3 zr_144_11 rfl ?_
                  refine zw_16 zr_144_12 (by omega) ?_
                  refine zw_48k (c := 70) (len := 826) zr_144_13 rfl rfl (by omega) (by omega) rfl ex69.symm ?_
                  refine zw_R zr_144_14 (by decide) zm_144 (v := (0, x69)) rfl ?_
                  rw [← hQ1]
                  show zW E (d) 197 76 [(2, 69), (0, a0), (0, a1), (0, i1), (0, i2), (9, 0)] [(0, x69)] m0 Q
                  refine zw_40_4 zr_197_76 ?_ ?_
                  · intro h91
                    refine zw_push zr_197_83 ?_
                    refine zw_10 (L' := [(2, 69), (0, a0), (0, a1), (0, i1), (0, i2), (0, 0)]) zr_197_84 (Nat.le_of_ble_eq_true rfl) rfl ?_
                    refine zw_3 zr_197_86 rfl ?_
                    refine zw_40_4 zr_197_87 ?_ ?_
                    · intro h92
                      refine zw_push zr_197_105 ?_
                      refine zw_42 zr_197_106 ?_
                      refine zw_9 (L' := [(2, 69), (0, a0), (0, a1), (0, 1), (0, i2), (0, 0)]) zr_197_110 (Nat.le_of_ble_eq_true rfl) rfl ?_
                      refine zw_15 (c := 1) (L' := [(2, 69), (0, a0), (0, a1), (0, 1), (0, (i2 + 1)), (0, 0)]) zr_197_111 rfl (by decide) (by omega) rfl ?_
                      refine zw_42 zr_197_114 ?_
                      exact zw_less (L := [(2, 69), (0, a0), (0, a1), (0, 1), (0, (i2 + 1)), (9, 0)]) ⟨Or.inr rfl, Or.inr rfl, Or.inr rfl, Or.inr rfl, Or.inr rfl, Or.inl rfl, trivial⟩ (ihlp5_3 (1) ((i2 + 1))  (by omega) (by omega) (by omega) (by omega) (by omega) (by omega) (by omega))
                    · intro h93
                      refine zw_4 zr_197_90 rfl ?_
                      refine zw_40_1 zr_197_92 ?_ ?_
                      · intro h94
                        refine zw_push zr_197_109 ?_
                        refine zw_9 (L' := [(2, 69), (0, a0), (0, a1), (0, 0), (0, i2), (0, 0)]) zr_197_110 (Nat.le_of_ble_eq_true rfl) rfl ?_
                        refine zw_15 (c := 1) (L' := [(2, 69), (0, a0), (0, a1), (0, 0), (0, (i2 + 1)), (0, 0)]) zr_197_111 rfl (by decide) (by omega) rfl ?_
                        refine zw_42 zr_197_114 ?_
                        exact zw_less (L := [(2, 69), (0, a0), (0, a1), (0, 0), (0, (i2 + 1)), (9, 0)]) ⟨Or.inr rfl, Or.inr rfl, Or.inr rfl, Or.inr rfl, Or.inr rfl, Or.inl rfl, trivial⟩ (ihlp5_3 (0) ((i2 + 1))  (by omega) (by omega) (by omega) (by omega) (by omega) (by omega) (by omega))
                      · intro h95; omega
                  · intro h96
                    refine zw_push zr_197_79 ?_
                    refine zw_42 zr_197_80 ?_
                    refine zw_10 (L' := [(2, 69), (0, a0), (0, a1), (0, i1), (0, i2), (0, 1)]) zr_197_84 (Nat.le_of_ble_eq_true rfl) rfl ?_
                    refine zw_3 zr_197_86 rfl ?_
                    refine zw_40_4 zr_197_87 ?_ ?_
                    · intro h97
                      refine zw_push zr_197_105 ?_
                      refine zw_42 zr_197_106 ?_
                      refine zw_9 (L' := [(2, 69), (0, a0), (0, a1), (0, 1), (0, i2), (0, 1)]) zr_197_110 (Nat.le_of_ble_eq_true rfl) rfl ?_
                      refine zw_15 (c := 1) (L' := [(2, 69), (0, a0), (0, a1), (0, 1), (0, (i2 + 1)), (0, 1)]) zr_197_111 rfl (by decide) (by omega) rfl ?_
                      refine zw_42 zr_197_114 ?_
                      exact zw_less (L := [(2, 69), (0, a0), (0, a1), (0, 1), (0, (i2 + 1)), (9, 0)]) ⟨Or.inr rfl, Or.inr rfl, Or.inr rfl, Or.inr rfl, Or.inr rfl, Or.inl rfl, trivial⟩ (ihlp5_3 (1) ((i2 + 1))  (by omega) (by omega) (by omega) (by omega) (by omega) (by omega) (by omega))
                    · intro h98
                      refine zw_4 zr_197_90 rfl ?_
                      refine zw_40_1 zr_197_92 ?_ ?_
                      · intro h99; omega
                      · intro h100
                        refine zw_7 zr_197_95 rfl ?_
                        refine zw_4 zr_197_96 rfl ?_
                        refine zw_push zr_197_98 ?_
                        refine zw_C zr_197_99 (Or.inl rfl) zm_144 rfl rfl ⟨Nat.le_of_ble_eq_true rfl, Nat.le_of_ble_eq_true rfl, Nat.le_of_ble_eq_true rfl, rfl, by decide⟩ (by omega) (P := (fun v m' => zW E (d) 197 102 [(2, 69), (0, a0), (0, a1), (0, i1), (0, i2), (0, 1)] (if v.1 = 9 then [] else v :: []) m' Q)) ?_ (fun _ _ h => h)
                        generalize hQ1 : (fun v m' => zW E (d) 197 102 [(2, 69), (0, a0), (0, a1), (0, i1), (0, i2), (0, 1)] (if v.1 = 9 then [] else v :: []) m' Q) = Q1
                        show zW E (d - 1) 144 0 [(2, 69), (0, i2), (0, 4)] [] m0 Q1
                        refine zw_7 zr_144_0 rfl ?_
                        refine zw_46r (s := 70) zr_144_1 rfl rfl rfl rfl ?_
                        refine zw_push zr_144_4 ?_
                        refine zw_push zr_144_6 ?_
                        refine zw_3 zr_144_8 rfl ?_
                        refine zw_18 zr_144_9 (by omega) ?_
                        refine zw_16 zr_144_10 (by omega) ?_
                        refine zw_3 zr_144_11 rfl ?_
                        refine zw_16 zr_144_12 (by omega) ?_
                        refine zw_48 (c := 70) (len := 826) zr_144_13 rfl rfl (by omega) (by omega) ?_
                        intro x101 ex101
                        have bx101 := ib_70_m4 hI0 (k := (((90 + (6 * i2)) + 4)).toNat) (by omega)
                        rw [← ex101] at bx101
                        have qx101 : x101 = F70 (((90 + (6 * i2)) + 4)).toNat := by rw [← hG70]; exact ex101
                        refine zw_R zr_144_14 (by decide) zm_144 (v := (0, x101)) rfl ?_
                        rw [← hQ1]
                        show zW E (d) 197 102 [(2, 69), (0, a0), (0, a1), (0, i1), (0, i2), (0, 1)] [(0, x101)] m0 Q
                        refine zw_40_4 zr_197_102 ?_ ?_
                        · intro h102
                          refine zw_push zr_197_109 ?_
                          refine zw_9 (L' := [(2, 69), (0, a0), (0, a1), (0, 0), (0, i2), (0, 1)]) zr_197_110 (Nat.le_of_ble_eq_true rfl) rfl ?_
                          refine zw_15 (c := 1) (L' := [(2, 69), (0, a0), (0, a1), (0, 0), (0, (i2 + 1)), (0, 1)]) zr_197_111 rfl (by decide) (by omega) rfl ?_
                          refine zw_42 zr_197_114 ?_
                          exact zw_less (L := [(2, 69), (0, a0), (0, a1), (0, 0), (0, (i2 + 1)), (9, 0)]) ⟨Or.inr rfl, Or.inr rfl, Or.inr rfl, Or.inr rfl, Or.inr rfl, Or.inl rfl, trivial⟩ (ihlp5_3 (0) ((i2 + 1))  (by omega) (by omega) (by omega) (by omega) (by omega) (by omega) (by omega))
                        · intro h103
                          refine zw_push zr_197_105 ?_
                          refine zw_42 zr_197_106 ?_
                          refine zw_9 (L' := [(2, 69), (0, a0), (0, a1), (0, 1), (0, i2), (0, 1)]) zr_197_110 (Nat.le_of_ble_eq_true rfl) rfl ?_
                          refine zw_15 (c := 1) (L' := [(2, 69), (0, a0), (0, a1), (0, 1), (0, (i2 + 1)), (0, 1)]) zr_197_111 rfl (by decide) (by omega) rfl ?_
                          refine zw_42 zr_197_114 ?_
                          exact zw_less (L := [(2, 69), (0, a0), (0, a1), (0, 1), (0, (i2 + 1)), (9, 0)]) ⟨Or.inr rfl, Or.inr rfl, Or.inr rfl, Or.inr rfl, Or.inr rfl, Or.inl rfl, trivial⟩ (ihlp5_3 (1) ((i2 + 1))  (by omega) (by omega) (by omega) (by omega) (by omega) (by omega) (by omega))
  exact lp5_3 _ (0) (0)  (by omega) (by omega) (by omega) (by omega) (by simp only [hbv, Int.toNat_zero]) (by have := ib_70_meetings hI0 (k := 823) rfl; omega) (Nat.lt_succ_self _)

set_option maxHeartbeats 8000000 in
theorem th_198 {E : zE} {d : Nat} {m0 : zM} {g0 : Int} {F70 : Nat → Int} (hd : 3 ≤ d) (hI0 : zInv m0) (hg0 : m0 70 822 = g0) (hG70 : m0 70 = F70) : zC E d 198 [(2, 69)] m0 (fun v m' => ∃ r : Int, v = (0, r) ∧ 0 ≤ r ∧ r ≤ 2000 ∧ m0 = m' ∧ (r = t1 F70 (F70 823).toNat g0.toNat g0.toNat)) := by
  have bg0 : 0 ≤ m0 70 822 ∧ m0 70 822 ≤ 10 := ib_70_players hI0 (by omega)
  rw [hg0] at bg0
  generalize hQ : (fun (v : zV) (m' : zM) => ∃ r : Int, v = (0, r) ∧ 0 ≤ r ∧ r ≤ 2000 ∧ m0 = m' ∧ (r = t1 F70 (F70 823).toNat g0.toNat g0.toNat)) = Q
  show zW E d 198 0 [(2, 69), (9, 0), (9, 0), (9, 0), (9, 0)] [] m0 Q
  refine zw_push zr_198_0 ?_
  refine zw_9 (L' := [(2, 69), (0, 0), (9, 0), (9, 0), (9, 0)]) zr_198_1 (Nat.le_of_ble_eq_true rfl) rfl ?_
  refine zw_push zr_198_2 ?_
  refine zw_9 (L' := [(2, 69), (0, 0), (0, 0), (9, 0), (9, 0)]) zr_198_3 (Nat.le_of_ble_eq_true rfl) rfl ?_
  have lp4_3 : ∀ (nlp4_3 : Nat) (i1 i2 : Int), 0 ≤ i1 → i1 ≤ 2000 → 0 ≤ i2 → i2 ≤ 10 → (i1 = t1 F70 (F70 823).toNat g0.toNat (i2).toNat) → (i1 ≤ 200 * i2 ∧ i2 ≤ g0) → (10 - i2).toNat < nlp4_3 → zW E (d) 198 4 [(2, 69), (0, i1), (0, i2), (9, 0), (9, 0)] [] m0 Q := by
    intro nlp4_3
    induction nlp4_3 with
    | zero =>
      intros
      exact absurd (by assumption : _ < 0) (Nat.not_lt_zero _)
    | succ nlp4_3 ihlp4_3 =>
      intro i1 i2 li1 ui1 li2 ui2 hv0lp4_3 hv1lp4_3 hmlp4_3
      refine zw_3 zr_198_4 rfl ?_
      refine zw_7 zr_198_5 rfl ?_
      refine zw_C zr_198_6 (Or.inl rfl) zm_141 rfl rfl ⟨Nat.le_of_ble_eq_true rfl, Nat.le_of_ble_eq_true rfl, Nat.le_of_ble_eq_true rfl, rfl, by decide⟩ (by omega) (P := (fun v m' => zW E (d) 198 9 [(2, 69), (0, i1), (0, i2), (9, 0), (9, 0)] (if v.1 = 9 then [(0, i2)] else v :: [(0, i2)]) m' Q)) ?_ (fun _ _ h => h)
      generalize hQ1 : (fun v m' => zW E (d) 198 9 [(2, 69), (0, i1), (0, i2), (9, 0), (9, 0)] (if v.1 = 9 then [(0, i2)] else v :: [(0, i2)]) m' Q) = Q1
      show zW E (d - 1) 141 0 [(2, 69)] [] m0 Q1
      refine zw_7 zr_141_0 rfl ?_
      refine zw_46r (s := 70) zr_141_1 rfl rfl rfl rfl ?_
      refine zw_push zr_141_4 ?_
      refine zw_48k (c := 70) (len := 826) zr_141_7 rfl rfl (by omega) (by omega) (show (822 : Int).toNat = 822 by omega) hg0 ?_
      refine zw_R zr_141_8 (by decide) zm_141 (v := (0, g0)) rfl ?_
      rw [← hQ1]
      show zW E (d) 198 9 [(2, 69), (0, i1), (0, i2), (9, 0), (9, 0)] [(0, g0), (0, i2)] m0 Q
      refine zw_41_3 zr_198_9 ?_ ?_
      · intro h5
        have z6 := hv0lp4_3; rw [show (i2).toNat = g0.toNat by omega] at z6
        refine zw_3 zr_198_99 rfl ?_
        refine zw_R zr_198_100 (by decide) zm_198 (v := (0, i1)) rfl ?_
        rw [← hQ]; exact ⟨_, rfl, by omega, by omega, rfl, by omega⟩
      · intro h8
        refine zw_3 zr_198_12 rfl ?_
        refine zw_push zr_198_13 ?_
        refine zw_16 zr_198_14 (by omega) ?_
        refine zw_9 (L' := [(2, 69), (0, i1), (0, i2), (0, (i2 + 1)), (9, 0)]) zr_198_15 (Nat.le_of_ble_eq_true rfl) rfl ?_
        have lp16_11 : ∀ (nlp16_11 : Nat) (i9 i10 : Int), 0 ≤ i9 → i9 ≤ 2000 → 1 ≤ i10 → i10 ≤ 10 → (i9 = t1 F70 (F70 823).toNat g0.toNat (i2).toNat + t2 F70 (F70 823).toNat g0.toNat (i2).toNat (i10).toNat) → (i9 ≤ 200 * i2 + 20 * i10 ∧ i10 ≤ g0 ∧ i2 + 1 ≤ i10) → (10 - i10).toNat < nlp16_11 → zW E (d) 198 16 [(2, 69), (0, i9), (0, i2), (0, i10), (9, 0)] [] m0 Q := by
          intro nlp16_11
          induction nlp16_11 with
          | zero =>
            intros
            exact absurd (by assumption : _ < 0) (Nat.not_lt_zero _)
          | succ nlp16_11 ihlp16_11 =>
            intro i9 i10 li9 ui9 li10 ui10 hv0lp16_11 hv1lp16_11 hmlp16_11
            refine zw_3 zr_198_16 rfl ?_
            refine zw_7 zr_198_17 rfl ?_
            refine zw_C zr_198_18 (Or.inl rfl) zm_141 rfl rfl ⟨Nat.le_of_ble_eq_true rfl, Nat.le_of_ble_eq_true rfl, Nat.le_of_ble_eq_true rfl, rfl, by decide⟩ (by omega) (P := (fun v m' => zW E (d) 198 21 [(2, 69), (0, i9), (0, i2), (0, i10), (9, 0)] (if v.1 = 9 then [(0, i10)] else v :: [(0, i10)]) m' Q)) ?_ (fun _ _ h => h)
            generalize hQ1 : (fun v m' => zW E (d) 198 21 [(2, 69), (0, i9), (0, i2), (0, i10), (9, 0)] (if v.1 = 9 then [(0, i10)] else v :: [(0, i10)]) m' Q) = Q1
            show zW E (d - 1) 141 0 [(2, 69)] [] m0 Q1
            refine zw_7 zr_141_0 rfl ?_
            refine zw_46r (s := 70) zr_141_1 rfl rfl rfl rfl ?_
            refine zw_push zr_141_4 ?_
            refine zw_48k (c := 70) (len := 826) zr_141_7 rfl rfl (by omega) (by omega) (show (822 : Int).toNat = 822 by omega) hg0 ?_
            refine zw_R zr_141_8 (by decide) zm_141 (v := (0, g0)) rfl ?_
            rw [← hQ1]
            show zW E (d) 198 21 [(2, 69), (0, i9), (0, i2), (0, i10), (9, 0)] [(0, g0), (0, i10)] m0 Q
            refine zw_41_3 zr_198_21 ?_ ?_
            · intro h13
              have z14 := hv0lp16_11; rw [show (i10).toNat = g0.toNat by omega] at z14
              have z15 := t1_s F70 (F70 823).toNat g0.toNat (i2) (by omega)
              refine zw_15 (c := 1) (L' := [(2, 69), (0, i9), (0, (i2 + 1)), (0, i10), (9, 0)]) zr_198_93 rfl (by decide) (by omega) rfl ?_
              refine zw_42 zr_198_96 ?_
              exact zw_less (L := [(2, 69), (0, i9), (0, (i2 + 1)), (9, 0), (9, 0)]) ⟨Or.inr rfl, Or.inr rfl, Or.inr rfl, Or.inl rfl, Or.inl rfl, trivial⟩ (ihlp4_3 (i9) ((i2 + 1))  (by omega) (by omega) (by omega) (by omega) (by omega) (by omega) (by omega))
            · intro h16
              refine zw_3 zr_198_24 rfl ?_
              refine zw_push zr_198_25 ?_
              refine zw_16 zr_198_26 (by omega) ?_
              refine zw_10 (L' := [(2, 69), (0, i9), (0, i2), (0, i10), (0, (i2 + 1))]) zr_198_27 (Nat.le_of_ble_eq_true rfl) rfl ?_
              have lp29_19 : ∀ (nlp29_19 : Nat) (i17 i18 : Int), 0 ≤ i17 → i17 ≤ 2000 → 1 ≤ i18 → i18 ≤ 10 → (i17 = t1 F70 (F70 823).toNat g0.toNat (i2).toNat + t2 F70 (F70 823).toNat g0.toNat (i2).toNat (i10).toNat + t3 F70 (F70 823).toNat (i2).toNat (i10).toNat (i18).toNat) → (i17 ≤ 200 * i2 + 20 * i10 + 2 * i18 ∧ i18 ≤ g0 ∧ i2 + 1 ≤ i18) → (10 - i18).toNat < nlp29_19 → zW E (d) 198 29 [(2, 69), (0, i17), (0, i2), (0, i10), (0, i18)] [] m0 Q := by
                intro nlp29_19
                induction nlp29_19 with
                | zero =>
                  intros
                  exact absurd (by assumption : _ < 0) (Nat.not_lt_zero _)
                | succ nlp29_19 ihlp29_19 =>
                  intro i17 i18 li17 ui17 li18 ui18 hv0lp29_19 hv1lp29_19 hmlp29_19
                  refine zw_4 zr_198_29 rfl ?_
                  refine zw_7 zr_198_31 rfl ?_
                  refine zw_C zr_198_32 (Or.inl rfl) zm_141 rfl rfl ⟨Nat.le_of_ble_eq_true rfl, Nat.le_of_ble_eq_true rfl, Nat.le_of_ble_eq_true rfl, rfl, by decide⟩ (by omega) (P := (fun v m' => zW E (d) 198 35 [(2, 69), (0, i17), (0, i2), (0, i10), (0, i18)] (if v.1 = 9 then [(0, i18)] else v :: [(0, i18)]) m' Q)) ?_ (fun _ _ h => h)
                  generalize hQ1 : (fun v m' => zW E (d) 198 35 [(2, 69), (0, i17), (0, i2), (0, i10), (0, i18)] (if v.1 = 9 then [(0, i18)] else v :: [(0, i18)]) m' Q) = Q1
                  show zW E (d - 1) 141 0 [(2, 69)] [] m0 Q1
                  refine zw_7 zr_141_0 rfl ?_
                  refine zw_46r (s := 70) zr_141_1 rfl rfl rfl rfl ?_
                  refine zw_push zr_141_4 ?_
                  refine zw_48k (c := 70) (len := 826) zr_141_7 rfl rfl (by omega) (by omega) (show (822 : Int).toNat = 822 by omega) hg0 ?_
                  refine zw_R zr_141_8 (by decide) zm_141 (v := (0, g0)) rfl ?_
                  rw [← hQ1]
                  show zW E (d) 198 35 [(2, 69), (0, i17), (0, i2), (0, i10), (0, i18)] [(0, g0), (0, i18)] m0 Q
                  refine zw_41_3 zr_198_35 ?_ ?_
                  · intro h21
                    have z22 := hv0lp29_19; rw [show (i18).toNat = g0.toNat by omega] at z22
                    have z23 := t2_s F70 (F70 823).toNat g0.toNat (i2) (i10) (by omega) (by omega)
                    refine zw_15 (c := 1) (L' := [(2, 69), (0, i17), (0, i2), (0, (i10 + 1)), (0, i18)]) zr_198_87 rfl (by decide) (by omega) rfl ?_
                    refine zw_42 zr_198_90 ?_
                    exact zw_less (L := [(2, 69), (0, i17), (0, i2), (0, (i10 + 1)), (9, 0)]) ⟨Or.inr rfl, Or.inr rfl, Or.inr rfl, Or.inr rfl, Or.inl rfl, trivial⟩ (ihlp16_11 (i17) ((i10 + 1))  (by omega) (by omega) (by omega) (by omega) (by omega) (by omega) (by omega))
                  · intro h24
                    refine zw_3 zr_198_38 rfl ?_
                    refine zw_3 zr_198_39 rfl ?_
                    refine zw_4 zr_198_40 rfl ?_
                    refine zw_41_1 zr_198_42 ?_ ?_
                    · intro h25
                      refine zw_push zr_198_78 ?_
                      refine zw_16 zr_198_79 (by omega) ?_
                      refine zw_9 (L' := [(2, 69), (0, (i17 + 0)), (0, i2), (0, i10), (0, i18)]) zr_198_80 (Nat.le_of_ble_eq_true rfl) rfl ?_
                      have z26 := t3_s F70 (F70 823).toNat (i2) (i10) (i18) (by omega) (by omega) (by omega)
                      have z27 := tgv_c F70 (F70 823).toNat (i2) (i10) (i18)
                      refine zw_15 (c := 1) (L' := [(2, 69), (0, (i17 + 0)), (0, i2), (0, i10), (0, (i18 + 1))]) zr_198_81 rfl (by decide) (by omega) rfl ?_
                      refine zw_42 zr_198_84 ?_
                      exact zw_less (L := [(2, 69), (0, (i17 + 0)), (0, i2), (0, i10), (0, (i18 + 1))]) ⟨Or.inr rfl, Or.inr rfl, Or.inr rfl, Or.inr rfl, Or.inr rfl, trivial⟩ (ihlp29_19 ((i17 + 0)) ((i18 + 1))  (by omega) (by omega) (by omega) (by omega) (by omega) (by omega) (by omega))
                    · intro h28
                      refine zw_7 zr_198_45 rfl ?_
                      refine zw_3 zr_198_46 rfl ?_
                      refine zw_3 zr_198_47 rfl ?_
                      refine zw_C zr_198_48 (Or.inl rfl) zm_197 rfl rfl ⟨Nat.le_of_ble_eq_true rfl, Nat.le_of_ble_eq_true rfl, Nat.le_of_ble_eq_true rfl, rfl, by decide⟩ (by omega) (th_197 (d := d - 1) (by omega) hI0 (a0 := i2) (a1 := i10)   (F70 := F70)  hG70 (by omega) (by omega) ) ?_
                      rintro _ _ ⟨r29, rfl, hr29a, hr29b, rfl, po0_r29⟩
                      show zW E (d) 198 51 [(2, 69), (0, i17), (0, i2), (0, i10), (0, i18)] [(0, r29), (0, i17)] m0 Q
                      refine zw_40_1 zr_198_51 ?_ ?_
                      · intro h30
                        refine zw_push zr_198_78 ?_
                        refine zw_16 zr_198_79 (by omega) ?_
                        refine zw_9 (L' := [(2, 69), (0, (i17 + 0)), (0, i2), (0, i10), (0, i18)]) zr_198_80 (Nat.le_of_ble_eq_true rfl) rfl ?_
                        have z31 := t3_s F70 (F70 823).toNat (i2) (i10) (i18) (by omega) (by omega) (by omega)
                        have z32 := tgv_c F70 (F70 823).toNat (i2) (i10) (i18)
                        refine zw_15 (c := 1) (L' := [(2, 69), (0, (i17 + 0)), (0, i2), (0, i10), (0, (i18 + 1))]) zr_198_81 rfl (by decide) (by omega) rfl ?_
                        refine zw_42 zr_198_84 ?_
                        exact zw_less (L := [(2, 69), (0, (i17 + 0)), (0, i2), (0, i10), (0, (i18 + 1))]) ⟨Or.inr rfl, Or.inr rfl, Or.inr rfl, Or.inr rfl, Or.inr rfl, trivial⟩ (ihlp29_19 ((i17 + 0)) ((i18 + 1))  (by omega) (by omega) (by omega) (by omega) (by omega) (by omega) (by omega))
                      · intro h33
                        refine zw_7 zr_198_54 rfl ?_
                        refine zw_3 zr_198_55 rfl ?_
                        refine zw_4 zr_198_56 rfl ?_
                        refine zw_C zr_198_58 (Or.inl rfl) zm_197 rfl rfl ⟨Nat.le_of_ble_eq_true rfl, Nat.le_of_ble_eq_true rfl, Nat.le_of_ble_eq_true rfl, rfl, by decide⟩ (by omega) (th_197 (d := d - 1) (by omega) hI0 (a0 := i10) (a1 := i18)   (F70 := F70)  hG70 (by omega) (by omega) ) ?_
                        rintro _ _ ⟨r34, rfl, hr34a, hr34b, rfl, po0_r34⟩
                        show zW E (d) 198 61 [(2, 69), (0, i17), (0, i2), (0, i10), (0, i18)] [(0, r34), (0, i17)] m0 Q
                        refine zw_40_1 zr_198_61 ?_ ?_
                        · intro h35
                          refine zw_push zr_198_78 ?_
                          refine zw_16 zr_198_79 (by omega) ?_
                          refine zw_9 (L' := [(2, 69), (0, (i17 + 0)), (0, i2), (0, i10), (0, i18)]) zr_198_80 (Nat.le_of_ble_eq_true rfl) rfl ?_
                          have z36 := t3_s F70 (F70 823).toNat (i2) (i10) (i18) (by omega) (by omega) (by omega)
                          have z37 := tgv_c F70 (F70 823).toNat (i2) (i10) (i18)
                          refine zw_15 (c := 1) (L' := [(2, 69), (0, (i17 + 0)), (0, i2), (0, i10), (0, (i18 + 1))]) zr_198_81 rfl (by decide) (by omega) rfl ?_
                          refine zw_42 zr_198_84 ?_
                          exact zw_less (L := [(2, 69), (0, (i17 + 0)), (0, i2), (0, i10), (0, (i18 + 1))]) ⟨Or.inr rfl, Or.inr rfl, Or.inr rfl, Or.inr rfl, Or.inr rfl, trivial⟩ (ihlp29_19 ((i17 + 0)) ((i18 + 1))  (by omega) (by omega) (by omega) (by omega) (by omega) (by omega) (by omega))
                        · intro h38
                          refine zw_7 zr_198_64 rfl ?_
                          refine zw_4 zr_198_65 rfl ?_
                          refine zw_3 zr_198_67 rfl ?_
                          refine zw_C zr_198_68 (Or.inl rfl) zm_197 rfl rfl ⟨Nat.le_of_ble_eq_true rfl, Nat.le_of_ble_eq_true rfl, Nat.le_of_ble_eq_true rfl, rfl, by decide⟩ (by omega) (th_197 (d := d - 1) (by omega) hI0 (a0 := i18) (a1 := i2)   (F70 := F70)  hG70 (by omega) (by omega) ) ?_
                          rintro _ _ ⟨r39, rfl, hr39a, hr39b, rfl, po0_r39⟩
                          show zW E (d) 198 71 [(2, 69), (0, i17), (0, i2), (0, i10), (0, i18)] [(0, r39), (0, i17)] m0 Q
                          refine zw_40_1 zr_198_71 ?_ ?_
                          · intro h40
                            refine zw_push zr_198_78 ?_
                            refine zw_16 zr_198_79 (by omega) ?_
                            refine zw_9 (L' := [(2, 69), (0, (i17 + 0)), (0, i2), (0, i10), (0, i18)]) zr_198_80 (Nat.le_of_ble_eq_true rfl) rfl ?_
                            have z41 := t3_s F70 (F70 823).toNat (i2) (i10) (i18) (by omega) (by omega) (by omega)
                            have z42 := tgv_c F70 (F70 823).toNat (i2) (i10) (i18)
                            refine zw_15 (c := 1) (L' := [(2, 69), (0, (i17 + 0)), (0, i2), (0, i10), (0, (i18 + 1))]) zr_198_81 rfl (by decide) (by omega) rfl ?_
                            refine zw_42 zr_198_84 ?_
                            exact zw_less (L := [(2, 69), (0, (i17 + 0)), (0, i2), (0, i10), (0, (i18 + 1))]) ⟨Or.inr rfl, Or.inr rfl, Or.inr rfl, Or.inr rfl, Or.inr rfl, trivial⟩ (ihlp29_19 ((i17 + 0)) ((i18 + 1))  (by omega) (by omega) (by omega) (by omega) (by omega) (by omega) (by omega))
                          · intro h43
                            refine zw_push zr_198_74 ?_
                            refine zw_42 zr_198_75 ?_
                            refine zw_16 zr_198_79 (by omega) ?_
                            refine zw_9 (L' := [(2, 69), (0, (i17 + 1)), (0, i2), (0, i10), (0, i18)]) zr_198_80 (Nat.le_of_ble_eq_true rfl) rfl ?_
                            have z44 := t3_s F70 (F70 823).toNat (i2) (i10) (i18) (by omega) (by omega) (by omega)
                            have z45 := tgv_c F70 (F70 823).toNat (i2) (i10) (i18)
                            refine zw_15 (c := 1) (L' := [(2, 69), (0, (i17 + 1)), (0, i2), (0, i10), (0, (i18 + 1))]) zr_198_81 rfl (by decide) (by omega) rfl ?_
                            refine zw_42 zr_198_84 ?_
                            exact zw_less (L := [(2, 69), (0, (i17 + 1)), (0, i2), (0, i10), (0, (i18 + 1))]) ⟨Or.inr rfl, Or.inr rfl, Or.inr rfl, Or.inr rfl, Or.inr rfl, trivial⟩ (ihlp29_19 ((i17 + 1)) ((i18 + 1))  (by omega) (by omega) (by omega) (by omega) (by omega) (by omega) (by omega))
              exact lp29_19 _ (i9) ((i2 + 1))  (by omega) (by omega) (by omega) (by omega) (by have := t3_0 F70 (F70 823).toNat (i2) (i10) (by omega); omega) (by omega) (Nat.lt_succ_self _)
        exact lp16_11 _ (i1) ((i2 + 1))  (by omega) (by omega) (by omega) (by omega) (by have := t2_0 F70 (F70 823).toNat g0.toNat (i2) (by omega); omega) (by omega) (Nat.lt_succ_self _)
  exact lp4_3 _ (0) (0)  (by omega) (by omega) (by omega) (by omega) (by rfl) (by omega) (Nat.lt_succ_self _)

abbrev W_4_68 : List (Nat × Nat) := [(68, 1000)]
set_option maxHeartbeats 8000000 in
theorem th_4_68 {E : zE} {d : Nat} {m0 : zM} {a0 : Int} {F68 : Nat → Int} (hd : 1 ≤ d) (hI0 : zInv m0) (hG68 : m0 68 = F68) (ha0 : 0 ≤ a0 ∧ a0 ≤ 0) : zC E d 4 [(2, 68), (0, a0)] m0 (fun v m' => v = (9, 0) ∧ zInv m' ∧ zFr W_4_68 m0 m' ∧ (zFil (m' 68) 11 a0)) := by
  have hF0 : zFr W_4_68 m0 m0 := zFr.rfl
  generalize hQ : (fun (v : zV) (m' : zM) => v = (9, 0) ∧ zInv m' ∧ zFr W_4_68 m0 m' ∧ (zFil (m' 68) 11 a0)) = Q
  show zW E d 4 0 [(2, 68), (0, a0), (9, 0), (9, 0)] [] m0 Q
  refine zw_push zr_4_0 ?_
  refine zw_9 (L' := [(2, 68), (0, a0), (0, 0), (9, 0)]) zr_4_1 (Nat.le_of_ble_eq_true rfl) rfl ?_
  refine zw_7 zr_4_2 rfl ?_
  refine zw_101 (c := 68) (len := 11) zr_4_3 rfl rfl (by decide) ?_
  refine zw_9 (L' := [(2, 68), (0, a0), (0, 0), (0, 11)]) zr_4_4 (Nat.le_of_ble_eq_true rfl) rfl ?_
  have lp5_4 : ∀ (nlp5_4 : Nat) (i1 : Int) (f3 : Nat → Int) (m2 : zM), zInv m2 → zFr W_4_68 m0 m2 → m2 68 = f3 → 0 ≤ i1 → i1 ≤ 11 → (zFil f3 i1 a0) → (11 - i1).toNat < nlp5_4 → zW E (d) 4 5 [(2, 68), (0, a0), (0, i1), (0, 11)] [] m2 Q := by
    intro nlp5_4
    induction nlp5_4 with
    | zero =>
      intros
      exact absurd (by assumption : _ < 0) (Nat.not_lt_zero _)
    | succ nlp5_4 ihlp5_4 =>
      intro i1 f3 m2 hIm2 hFm2 fm2_68 li1 ui1 hv0lp5_4 hmlp5_4
      refine zw_3 zr_4_5 rfl ?_
      refine zw_3 zr_4_6 rfl ?_
      refine zw_41_3 zr_4_7 ?_ ?_
      · intro h6
        refine zw_R zr_4_20 (by decide) zm_4 (v := (9, 0)) rfl ?_
        rw [← hQ]; exact ⟨rfl, hIm2, hFm2, by rw [fm2_68]; exact zFil_le hv0lp5_4 (by omega)⟩
      · intro h8
        refine zw_7 zr_4_10 rfl ?_
        refine zw_3 zr_4_11 rfl ?_
        refine zw_3 zr_4_12 rfl ?_
        refine zw_49 (c := 68) (len := 11) zr_4_13 rfl rfl (by omega) (by omega) ?_
        intro m9 em9
        have hIm9 : zInv m9 := by rw [em9]; exact iu_68 hIm2 (by omega)
        have hFm9 : zFr W_4_68 m0 m9 := by rw [em9]; exact hFm2.any rfl
        have fm9_68 : m9 68 = zPt f3 ((i1).toNat) a0 := by rw [em9]; exact (zUp_ff (m := m2)).trans (congrArg (fun q => zPt q ((i1).toNat) a0) fm2_68)
        clear em9
        refine zw_15 (c := 1) (L' := [(2, 68), (0, a0), (0, (i1 + 1)), (0, 11)]) zr_4_14 rfl (by decide) (by omega) rfl ?_
        refine zw_42 zr_4_17 ?_
        exact zw_less (L := [(2, 68), (0, a0), (0, (i1 + 1)), (0, 11)]) ⟨Or.inr rfl, Or.inr rfl, Or.inr rfl, Or.inr rfl, trivial⟩ (ihlp5_4 ((i1 + 1)) (zPt f3 ((i1).toNat) a0) m9 hIm9 hFm9   fm9_68 (by omega) (by omega) (zFil_put hv0lp5_4 (by omega)) (by omega))
  exact lp5_4 _ (0) (F68) m0 hI0 hF0  hG68 (by omega) (by omega) (zFil_0) (Nat.lt_succ_self _)

abbrev W_94 : List (Nat × Nat) := [(68, 1000)]
set_option maxHeartbeats 8000000 in
theorem th_94 {E : zE} {d : Nat} {m0 : zM} {g0 : Int} {F65 : Nat → Int} {F68 : Nat → Int} (hd : 2 ≤ d) (hI0 : zInv m0) (hg0 : m0 1 0 = g0) (hG65 : m0 65 = F65) (hG68 : m0 68 = F68) : zC E d 94 [(2, 63)] m0 (fun v m' => v = (9, 0) ∧ zInv m' ∧ zFr W_94 m0 m' ∧ (zRb F65 (m' 68) g0 0)) := by
  have hF0 : zFr W_94 m0 m0 := zFr.rfl
  have bg0 := ib_1_0 hI0
  rw [hg0] at bg0
  generalize hQ : (fun (v : zV) (m' : zM) => v = (9, 0) ∧ zInv m' ∧ zFr W_94 m0 m' ∧ (zRb F65 (m' 68) g0 0)) = Q
  show zW E d 94 0 [(2, 63), (9, 0), (9, 0)] [] m0 Q
  refine zw_7 zr_94_0 rfl ?_
  refine zw_46r (s := 68) zr_94_1 rfl rfl rfl rfl ?_
  refine zw_push zr_94_4 ?_
  refine zw_C zr_94_5 (Or.inr rfl) zm_4 rfl rfl ⟨Nat.le_of_ble_eq_true rfl, Nat.le_of_ble_eq_true rfl, Nat.le_of_ble_eq_true rfl, rfl, by decide⟩ (by omega) (th_4_68 (d := d - 1) (by omega) hI0 (a0 := 0)   (F68 := F68)  hG68 (by omega) ) ?_
  rintro _ m1 ⟨rfl, hIm1, gm1, po0_m1⟩
  have hFm1 : zFr W_94 m0 m1 := hF0.trans gm1 rfl
  have km1_1_0 : m1 1 0 = g0 := (gm1 1 0 rfl).trans hg0
  have fm1_65 : m1 65 = F65 := (funext fun k => gm1 65 k rfl).trans hG65
  obtain ⟨f2, fm1_68⟩ : ∃ f, m1 68 = f := ⟨_, rfl⟩
  try rw [fm1_68] at po0_m1
  show zW E (d) 94 8 [(2, 63), (9, 0), (9, 0)] [] m1 Q
  refine zw_7 zr_94_8 rfl ?_
  refine zw_46r (s := 1) zr_94_9 rfl rfl rfl rfl ?_
  refine zw_46i zr_94_12 km1_1_0 rfl rfl rfl ?_
  refine zw_push zr_94_15 ?_
  refine zw_17 zr_94_16 (by omega) ?_
  refine zw_9 (L' := [(2, 63), (0, (g0 - 1)), (9, 0)]) zr_94_17 (Nat.le_of_ble_eq_true rfl) rfl ?_
  have lp18_6 : ∀ (nlp18_6 : Nat) (i3 : Int) (f5 : Nat → Int) (m4 : zM), zInv m4 → zFr W_94 m0 m4 → m4 1 0 = g0 → m4 65 = F65 → m4 68 = f5 → (-1) ≤ i3 → i3 ≤ 9 → (zRb F65 f5 g0 (i3 + 1)) → (f5 (i3 + 1).toNat ≤ 600 * (g0 - 1 - i3)) → (i3 - (-1)).toNat < nlp18_6 → zW E (d) 94 18 [(2, 63), (0, i3), (9, 0)] [] m4 Q := by
    intro nlp18_6
    induction nlp18_6 with
    | zero =>
      intros
      exact absurd (by assumption : _ < 0) (Nat.not_lt_zero _)
    | succ nlp18_6 ihlp18_6 =>
      intro i3 f5 m4 hIm4 hFm4 km4_1_0 fm4_65 fm4_68 li3 ui3 hv0lp18_6 hv1lp18_6 hmlp18_6
      refine zw_3 zr_94_18 rfl ?_
      refine zw_40_0 zr_94_19 ?_ ?_
      · intro h8
        refine zw_R zr_94_79 (by decide) zm_94 (v := (9, 0)) rfl ?_
        rw [← hQ]; exact ⟨rfl, hIm4, hFm4, by rw [fm4_68]; have z := hv0lp18_6; rw [show i3 + 1 = 0 by omega] at z; exact z⟩
      · intro h10
        refine zw_7 zr_94_22 rfl ?_
        refine zw_46r (s := 68) zr_94_23 rfl rfl rfl rfl ?_
        refine zw_3 zr_94_26 rfl ?_
        refine zw_7 zr_94_27 rfl ?_
        refine zw_46r (s := 68) zr_94_28 rfl rfl rfl rfl ?_
        refine zw_3 zr_94_31 rfl ?_
        refine zw_push zr_94_32 ?_
        refine zw_16 zr_94_33 (by omega) ?_
        refine zw_48 (c := 68) (len := 11) zr_94_34 rfl rfl (by omega) (by omega) ?_
        intro x11 ex11
        have bx11 := ib_68 hIm4 (k := ((i3 + 1)).toNat) (by omega)
        rw [← ex11] at bx11
        have qx11 : x11 = f5 ((i3 + 1)).toNat := by rw [← fm4_68]; exact ex11
        clear ex11
        refine zw_49 (c := 68) (len := 11) zr_94_35 rfl rfl (by omega) (by omega) ?_
        intro m12 em12
        have hIm12 : zInv m12 := by rw [em12]; exact iu_68 hIm4 (by omega)
        have hFm12 : zFr W_94 m0 m12 := by rw [em12]; exact hFm4.any rfl
        have km12_1_0 : m12 1 0 = g0 := by rw [em12, zUp_ne (by omega)]; exact km4_1_0
        have fm12_65 : m12 65 = F65 := by rw [em12, zUp_fn (by decide)]; exact fm4_65
        have fm12_68 : m12 68 = zPt f5 ((i3).toNat) x11 := by rw [em12]; exact (zUp_ff (m := m4)).trans (congrArg (fun q => zPt q ((i3).toNat) x11) fm4_68)
        clear em12
        refine zw_push zr_94_36 ?_
        refine zw_9 (L' := [(2, 63), (0, i3), (0, 0)]) zr_94_37 (Nat.le_of_ble_eq_true rfl) rfl ?_
        have lp38_16 : ∀ (nlp38_16 : Nat) (i13 : Int) (f15 : Nat → Int) (m14 : zM), zInv m14 → zFr W_94 m0 m14 → m14 1 0 = g0 → m14 65 = F65 → m14 68 = f15 → 0 ≤ i13 → i13 ≤ 9 → (zRb F65 f15 g0 (i3 + 1)) → (f15 (i3).toNat = f15 (i3 + 1).toNat + wm F65 (i3).toNat (i13).toNat) → (f15 (i3).toNat ≤ 600 * (g0 - 1 - i3) + 60 * i13) → (i13 ≤ i3) → (9 - i13).toNat < nlp38_16 → zW E (d) 94 38 [(2, 63), (0, i3), (0, i13)] [] m14 Q := by
          intro nlp38_16
          induction nlp38_16 with
          | zero =>
            intros
            exact absurd (by assumption : _ < 0) (Nat.not_lt_zero _)
          | succ nlp38_16 ihlp38_16 =>
            intro i13 f15 m14 hIm14 hFm14 km14_1_0 fm14_65 fm14_68 li13 ui13 hv0lp38_16 hv1lp38_16 hv2lp38_16 hv3lp38_16 hmlp38_16
            refine zw_3 zr_94_38 rfl ?_
            refine zw_3 zr_94_39 rfl ?_
            refine zw_41_3 zr_94_40 ?_ ?_
            · intro h18
              refine zw_15 (c := (-1)) (L' := [(2, 63), (0, (i3 + (-1))), (0, i13)]) zr_94_73 rfl (by decide) (by omega) rfl ?_
              refine zw_42 zr_94_76 ?_
              exact zw_less (L := [(2, 63), (0, (i3 + (-1))), (9, 0)]) ⟨Or.inr rfl, Or.inr rfl, Or.inl rfl, trivial⟩ (ihlp18_6 ((i3 + (-1))) (f15) m14 hIm14 hFm14  km14_1_0 fm14_65 fm14_68 (by omega) (by omega) (zRb_n hv0lp38_16 (fun k hk => by rw [← hG65]; exact ib_65 hI0 hk) hv1lp38_16 (by omega) (by omega) (by omega)) (zmv hv2lp38_16 (by omega) (by omega)) (by omega))
            · intro h21
              refine zw_7 zr_94_43 rfl ?_
              refine zw_46r (s := 68) zr_94_44 rfl rfl rfl rfl ?_
              refine zw_3 zr_94_47 rfl ?_
              refine zw_45 zr_94_48 ⟨rfl, rfl⟩ ?_
              refine zw_48 (c := 68) (len := 11) zr_94_49 rfl rfl (by omega) (by omega) ?_
              intro x22 ex22
              have bx22 := ib_68 hIm14 (k := (i3).toNat) (by omega)
              rw [← ex22] at bx22
              have qx22 : x22 = f15 (i3).toNat := by rw [← fm14_68]; exact ex22
              clear ex22
              refine zw_7 zr_94_50 rfl ?_
              refine zw_3 zr_94_51 rfl ?_
              refine zw_3 zr_94_52 rfl ?_
              refine zw_C zr_94_53 (Or.inl rfl) zm_91 rfl rfl ⟨Nat.le_of_ble_eq_true rfl, Nat.le_of_ble_eq_true rfl, Nat.le_of_ble_eq_true rfl, rfl, by decide⟩ (by omega) (P := (fun v m' => zW E (d) 94 56 [(2, 63), (0, i3), (0, i13)] (if v.1 = 9 then [(0, x22), (0, i3), (2, 68)] else v :: [(0, x22), (0, i3), (2, 68)]) m' Q)) ?_ (fun _ _ h => h)
              generalize hQ1 : (fun v m' => zW E (d) 94 56 [(2, 63), (0, i3), (0, i13)] (if v.1 = 9 then [(0, x22), (0, i3), (2, 68)] else v :: [(0, x22), (0, i3), (2, 68)]) m' Q) = Q1
              show zW E (d - 1) 91 0 [(2, 63), (0, i3), (0, i13)] [] m14 Q1
              refine zw_7 zr_91_0 rfl ?_
              refine zw_46r (s := 65) zr_91_1 rfl rfl rfl rfl ?_
              refine zw_3 zr_91_4 rfl ?_
              refine zw_push zr_91_5 ?_
              refine zw_18 zr_91_7 (by omega) ?_
              refine zw_3 zr_91_8 rfl ?_
              refine zw_16 zr_91_9 (by omega) ?_
              refine zw_48 (c := 65) (len := 100) zr_91_10 rfl rfl (by omega) (by omega) ?_
              intro x23 ex23
              have bx23 := ib_65 hIm14 (k := (((i3 * 10) + i13)).toNat) (by omega)
              rw [← ex23] at bx23
              have qx23 : x23 = F65 (((i3 * 10) + i13)).toNat := by rw [← fm14_65]; exact ex23
              clear ex23
              refine zw_R zr_91_11 (by decide) zm_91 (v := (0, x23)) rfl ?_
              rw [← hQ1]
              show zW E (d) 94 56 [(2, 63), (0, i3), (0, i13)] [(0, x23), (0, x22), (0, i3), (2, 68)] m14 Q
              refine zw_7 zr_94_56 rfl ?_
              refine zw_3 zr_94_57 rfl ?_
              refine zw_3 zr_94_58 rfl ?_
              refine zw_C zr_94_59 (Or.inl rfl) zm_91 rfl rfl ⟨Nat.le_of_ble_eq_true rfl, Nat.le_of_ble_eq_true rfl, Nat.le_of_ble_eq_true rfl, rfl, by decide⟩ (by omega) (P := (fun v m' => zW E (d) 94 62 [(2, 63), (0, i3), (0, i13)] (if v.1 = 9 then [(0, x23), (0, x22), (0, i3), (2, 68)] else v :: [(0, x23), (0, x22), (0, i3), (2, 68)]) m' Q)) ?_ (fun _ _ h => h)
              generalize hQ1 : (fun v m' => zW E (d) 94 62 [(2, 63), (0, i3), (0, i13)] (if v.1 = 9 then [(0, x23), (0, x22), (0, i3), (2, 68)] else v :: [(0, x23), (0, x22), (0, i3), (2, 68)]) m' Q) = Q1
              show zW E (d - 1) 91 0 [(2, 63), (0, i13), (0, i3)] [] m14 Q1
              refine zw_7 zr_91_0 rfl ?_
              refine zw_46r (s := 65) zr_91_1 rfl rfl rfl rfl ?_
              refine zw_3 zr_91_4 rfl ?_
              refine zw_push zr_91_5 ?_
              refine zw_18 zr_91_7 (by omega) ?_
              refine zw_3 zr_91_8 rfl ?_
              refine zw_16 zr_91_9 (by omega) ?_
              refine zw_48 (c := 65) (len := 100) zr_91_10 rfl rfl (by omega) (by omega) ?_
              intro x24 ex24
              have bx24 := ib_65 hIm14 (k := (((i13 * 10) + i3)).toNat) (by omega)
              rw [← ex24] at bx24
              have qx24 : x24 = F65 (((i13 * 10) + i3)).toNat := by rw [← fm14_65]; exact ex24
              clear ex24
              refine zw_R zr_91_11 (by decide) zm_91 (v := (0, x24)) rfl ?_
              rw [← hQ1]
              show zW E (d) 94 62 [(2, 63), (0, i3), (0, i13)] [(0, x24), (0, x23), (0, x22), (0, i3), (2, 68)] m14 Q
              have z25 := wm_e (p := i3) (n := i13) qx23 qx24 (by omega) (by omega) (by omega)
              refine zw_120 zr_94_62 (Nat.le_of_ble_eq_true rfl) (by omega) (by omega) (by omega) ?_
              intro x26 hx26a hx26b hx26c
              refine zw_16 zr_94_65 (by omega) ?_
              refine zw_49 (c := 68) (len := 11) zr_94_66 rfl rfl (by omega) (by omega) ?_
              intro m27 em27
              have hIm27 : zInv m27 := by rw [em27]; exact iu_68 hIm14 (by omega)
              have hFm27 : zFr W_94 m0 m27 := by rw [em27]; exact hFm14.any rfl
              have km27_1_0 : m27 1 0 = g0 := by rw [em27, zUp_ne (by omega)]; exact km14_1_0
              have fm27_65 : m27 65 = F65 := by rw [em27, zUp_fn (by decide)]; exact fm14_65
              have fm27_68 : m27 68 = zPt f15 ((i3).toNat) ((x22 + x26)) := by rw [em27]; exact (zUp_ff (m := m14)).trans (congrArg (fun q => zPt q ((i3).toNat) ((x22 + x26))) fm14_68)
              clear em27
              refine zw_15 (c := 1) (L' := [(2, 63), (0, i3), (0, (i13 + 1))]) zr_94_67 rfl (by decide) (by omega) rfl ?_
              refine zw_42 zr_94_70 ?_
              exact zw_less (L := [(2, 63), (0, i3), (0, (i13 + 1))]) ⟨Or.inr rfl, Or.inr rfl, Or.inr rfl, trivial⟩ (ihlp38_16 ((i13 + 1)) (zPt f15 ((i3).toNat) ((x22 + x26))) m27 hIm27 hFm27  km27_1_0 fm27_65 fm27_68 (by omega) (by omega) (zRb_pt hv0lp38_16 (by omega)) (by rw [zPt_eq, zPt_ne (by omega)]; omega) (by rw [zPt_eq]; omega) (by omega) (by omega))
        exact lp38_16 _ (0) (zPt f5 ((i3).toNat) x11) m12 hIm12 hFm12  km12_1_0 fm12_65 fm12_68 (by omega) (by omega) (zRb_pt hv0lp18_6 (by omega)) (by rw [zPt_eq, zPt_ne (by omega)]; have z : wm F65 (i3).toNat (Int.toNat 0) = 0 := rfl; omega) (by rw [zPt_eq]; omega) (by omega) (Nat.lt_succ_self _)
  exact lp18_6 _ ((g0 - 1)) (f2) m1 hIm1 hFm1  km1_1_0 fm1_65 fm1_68 (by omega) (by omega) (zRb_0 po0_m1 (by omega) (by omega)) (by have z := po0_m1 ((g0 - 1) + 1).toNat (by omega); omega) (Nat.lt_succ_self _)

abbrev W_95 : List (Nat × Nat) := [(67, 1000)]
set_option maxHeartbeats 8000000 in
theorem th_95 {E : zE} {d : Nat} {m0 : zM} {a0 : Int} {F65 : Nat → Int} {F66 : Nat → Int} {F67 : Nat → Int} (hd : 2 ≤ d) (hI0 : zInv m0) (hG65 : m0 65 = F65) (hG66 : m0 66 = F66) (hG67 : m0 67 = F67) (ha0 : 0 ≤ a0 ∧ a0 ≤ 9) : zC E d 95 [(2, 63), (0, a0)] m0 (fun v m' => v = (9, 0) ∧ zInv m' ∧ zFr W_95 m0 m' ∧ (zGn (m' 67) F65 F66 a0 a0) ∧ (zAg (m' 67) F67 (3 * a0))) := by
  have hF0 : zFr W_95 m0 m0 := zFr.rfl
  generalize hQ : (fun (v : zV) (m' : zM) => v = (9, 0) ∧ zInv m' ∧ zFr W_95 m0 m' ∧ (zGn (m' 67) F65 F66 a0 a0) ∧ (zAg (m' 67) F67 (3 * a0))) = Q
  show zW E d 95 0 [(2, 63), (0, a0), (9, 0)] [] m0 Q
  refine zw_push zr_95_0 ?_
  refine zw_9 (L' := [(2, 63), (0, a0), (0, 0)]) zr_95_1 (Nat.le_of_ble_eq_true rfl) rfl ?_
  have lp2_4 : ∀ (nlp2_4 : Nat) (i1 : Int) (f3 : Nat → Int) (m2 : zM), zInv m2 → zFr W_95 m0 m2 → m2 65 = F65 → m2 66 = F66 → m2 67 = f3 → 0 ≤ i1 → i1 ≤ 3 → (zGz f3 a0 i1) → (zAg f3 F67 (3 * a0)) → (3 - i1).toNat < nlp2_4 → zW E (d) 95 2 [(2, 63), (0, a0), (0, i1)] [] m2 Q := by
    intro nlp2_4
    induction nlp2_4 with
    | zero =>
      intros
      exact absurd (by assumption : _ < 0) (Nat.not_lt_zero _)
    | succ nlp2_4 ihlp2_4 =>
      intro i1 f3 m2 hIm2 hFm2 fm2_65 fm2_66 fm2_67 li1 ui1 hv0lp2_4 hv1lp2_4 hmlp2_4
      refine zw_3 zr_95_2 rfl ?_
      refine zw_push zr_95_3 ?_
      refine zw_41_3 zr_95_4 ?_ ?_
      · intro h6
        refine zw_push zr_95_24 ?_
        refine zw_9 (L' := [(2, 63), (0, a0), (0, 0)]) zr_95_25 (Nat.le_of_ble_eq_true rfl) rfl ?_
        have lp26_10 : ∀ (nlp26_10 : Nat) (i7 : Int) (f9 : Nat → Int) (m8 : zM), zInv m8 → zFr W_95 m0 m8 → m8 65 = F65 → m8 66 = F66 → m8 67 = f9 → 0 ≤ i7 → i7 ≤ 9 → (zGn f9 F65 F66 a0 i7) → (zAg f9 F67 (3 * a0)) → (i7 ≤ a0) → (9 - i7).toNat < nlp26_10 → zW E (d) 95 26 [(2, 63), (0, a0), (0, i7)] [] m8 Q := by
          intro nlp26_10
          induction nlp26_10 with
          | zero =>
            intros
            exact absurd (by assumption : _ < 0) (Nat.not_lt_zero _)
          | succ nlp26_10 ihlp26_10 =>
            intro i7 f9 m8 hIm8 hFm8 fm8_65 fm8_66 fm8_67 li7 ui7 hv0lp26_10 hv1lp26_10 hv2lp26_10 hmlp26_10
            refine zw_3 zr_95_26 rfl ?_
            refine zw_3 zr_95_27 rfl ?_
            refine zw_41_3 zr_95_28 ?_ ?_
            · intro h12
              refine zw_R zr_95_93 (by decide) zm_95 (v := (9, 0)) rfl ?_
              rw [← hQ]; exact ⟨rfl, hIm8, hFm8, by rw [fm8_67]; have z := hv0lp26_10; rw [show i7 = a0 by omega] at z; exact z, by rw [fm8_67]; exact hv1lp26_10⟩
            · intro h15
              refine zw_7 zr_95_31 rfl ?_
              refine zw_46r (s := 67) zr_95_32 rfl rfl rfl rfl ?_
              refine zw_3 zr_95_35 rfl ?_
              refine zw_push zr_95_36 ?_
              refine zw_18 zr_95_37 (by omega) ?_
              refine zw_7 zr_95_38 rfl ?_
              refine zw_46r (s := 66) zr_95_39 rfl rfl rfl rfl ?_
              refine zw_3 zr_95_42 rfl ?_
              refine zw_48 (c := 66) (len := 10) zr_95_43 rfl rfl (by omega) (by omega) ?_
              intro x16 ex16
              have bx16 := ib_66 hIm8 (k := (i7).toNat) (by omega)
              rw [← ex16] at bx16
              have qx16 : x16 = F66 (i7).toNat := by rw [← fm8_66]; exact ex16
              clear ex16
              have hX := qx16
              refine zw_push zr_95_44 ?_
              refine zw_16 zr_95_45 (by omega) ?_
              refine zw_push zr_95_46 ?_
              refine zw_20 zr_95_47 (by omega) (by omega) (by omega) (by omega) ?_
              refine zw_16 zr_95_48 (by omega) ?_
              refine zw_45 zr_95_49 ⟨rfl, rfl⟩ ?_
              refine zw_48 (c := 67) (len := 30) zr_95_50 rfl rfl (by omega) (by omega) ?_
              intro x18 ex18
              have bx18 := ib_67 hIm8 (k := (((a0 * 3) + ((x16 + 1) % 3))).toNat) (by omega)
              rw [← ex18] at bx18
              have qx18 : x18 = f9 (((a0 * 3) + ((x16 + 1) % 3))).toNat := by rw [← fm8_67]; exact ex18
              clear ex18
              have hY := qx18
              refine zw_7 zr_95_51 rfl ?_
              refine zw_3 zr_95_52 rfl ?_
              refine zw_3 zr_95_53 rfl ?_
              refine zw_C zr_95_54 (Or.inl rfl) zm_91 rfl rfl ⟨Nat.le_of_ble_eq_true rfl, Nat.le_of_ble_eq_true rfl, Nat.le_of_ble_eq_true rfl, rfl, by decide⟩ (by omega) (P := (fun v m' => zW E (d) 95 57 [(2, 63), (0, a0), (0, i7)] (if v.1 = 9 then [(0, x18), (0, ((a0 * 3) + ((x16 + 1) % 3))), (2, 67)] else v :: [(0, x18), (0, ((a0 * 3) + ((x16 + 1) % 3))), (2, 67)]) m' Q)) ?_ (fun _ _ h => h)
              generalize hQ1 : (fun v m' => zW E (d) 95 57 [(2, 63), (0, a0), (0, i7)] (if v.1 = 9 then [(0, x18), (0, ((a0 * 3) + ((x16 + 1) % 3))), (2, 67)] else v :: [(0, x18), (0, ((a0 * 3) + ((x16 + 1) % 3))), (2, 67)]) m' Q) = Q1
              show zW E (d - 1) 91 0 [(2, 63), (0, i7), (0, a0)] [] m8 Q1
              refine zw_7 zr_91_0 rfl ?_
              refine zw_46r (s := 65) zr_91_1 rfl rfl rfl rfl ?_
              refine zw_3 zr_91_4 rfl ?_
              refine zw_push zr_91_5 ?_
              refine zw_18 zr_91_7 (by omega) ?_
              refine zw_3 zr_91_8 rfl ?_
              refine zw_16 zr_91_9 (by omega) ?_
              refine zw_48 (c := 65) (len := 100) zr_91_10 rfl rfl (by omega) (by omega) ?_
              intro x20 ex20
              have bx20 := ib_65 hIm8 (k := (((i7 * 10) + a0)).toNat) (by omega)
              rw [← ex20] at bx20
              have qx20 : x20 = F65 (((i7 * 10) + a0)).toNat := by rw [← fm8_65]; exact ex20
              clear ex20
              refine zw_R zr_91_11 (by decide) zm_91 (v := (0, x20)) rfl ?_
              rw [← hQ1]
              show zW E (d) 95 57 [(2, 63), (0, a0), (0, i7)] [(0, x20), (0, x18), (0, ((a0 * 3) + ((x16 + 1) % 3))), (2, 67)] m8 Q
              have hZ := qx20
              have z22 := zGn_b hv0lp26_10 (fun k hk => by rw [← hG65]; exact ib_65 hI0 hk) hY (by omega) (by omega)
              refine zw_16 zr_95_57 (by omega) ?_
              refine zw_49 (c := 67) (len := 30) zr_95_58 rfl rfl (by omega) (by omega) ?_
              intro m23 em23
              have hIm23 : zInv m23 := by rw [em23]; exact iu_67 hIm8 (by omega)
              have hFm23 : zFr W_95 m0 m23 := by rw [em23]; exact hFm8.any rfl
              have fm23_65 : m23 65 = F65 := by rw [em23, zUp_fn (by decide)]; exact fm8_65
              have fm23_66 : m23 66 = F66 := by rw [em23, zUp_fn (by decide)]; exact fm8_66
              have fm23_67 : m23 67 = zPt f9 ((((a0 * 3) + ((x16 + 1) % 3))).toNat) ((x18 + x20)) := by rw [em23]; exact (zUp_ff (m := m8)).trans (congrArg (fun q => zPt q ((((a0 * 3) + ((x16 + 1) % 3))).toNat) ((x18 + x20))) fm8_67)
              clear em23
              refine zw_7 zr_95_59 rfl ?_
              refine zw_46r (s := 67) zr_95_60 rfl rfl rfl rfl ?_
              refine zw_3 zr_95_63 rfl ?_
              refine zw_push zr_95_64 ?_
              refine zw_18 zr_95_65 (by omega) ?_
              refine zw_7 zr_95_66 rfl ?_
              refine zw_46r (s := 66) zr_95_67 rfl rfl rfl rfl ?_
              refine zw_3 zr_95_70 rfl ?_
              refine zw_48 (c := 66) (len := 10) zr_95_71 rfl rfl (by omega) (by omega) ?_
              intro x24 ex24
              have bx24 := ib_66 hIm23 (k := (i7).toNat) (by omega)
              rw [← ex24] at bx24
              have qx24 : x24 = F66 (i7).toNat := by rw [← fm23_66]; exact ex24
              clear ex24
              have hX2 := qx24
              refine zw_push zr_95_72 ?_
              refine zw_16 zr_95_73 (by omega) ?_
              refine zw_push zr_95_74 ?_
              refine zw_20 zr_95_75 (by omega) (by omega) (by omega) (by omega) ?_
              refine zw_16 zr_95_76 (by omega) ?_
              refine zw_45 zr_95_77 ⟨rfl, rfl⟩ ?_
              refine zw_48 (c := 67) (len := 30) zr_95_78 rfl rfl (by omega) (by omega) ?_
              intro x26 ex26
              have bx26 := ib_67 hIm23 (k := (((a0 * 3) + ((x24 + 2) % 3))).toNat) (by omega)
              rw [← ex26] at bx26
              have qx26 : x26 = (zPt f9 ((((a0 * 3) + ((x16 + 1) % 3))).toNat) ((x18 + x20))) (((a0 * 3) + ((x24 + 2) % 3))).toNat := by rw [← fm23_67]; exact ex26
              clear ex26
              have hY2 := qx26
              refine zw_7 zr_95_79 rfl ?_
              refine zw_3 zr_95_80 rfl ?_
              refine zw_3 zr_95_81 rfl ?_
              refine zw_C zr_95_82 (Or.inl rfl) zm_91 rfl rfl ⟨Nat.le_of_ble_eq_true rfl, Nat.le_of_ble_eq_true rfl, Nat.le_of_ble_eq_true rfl, rfl, by decide⟩ (by omega) (P := (fun v m' => zW E (d) 95 85 [(2, 63), (0, a0), (0, i7)] (if v.1 = 9 then [(0, x26), (0, ((a0 * 3) + ((x24 + 2) % 3))), (2, 67)] else v :: [(0, x26), (0, ((a0 * 3) + ((x24 + 2) % 3))), (2, 67)]) m' Q)) ?_ (fun _ _ h => h)
              generalize hQ1 : (fun v m' => zW E (d) 95 85 [(2, 63), (0, a0), (0, i7)] (if v.1 = 9 then [(0, x26), (0, ((a0 * 3) + ((x24 + 2) % 3))), (2, 67)] else v :: [(0, x26), (0, ((a0 * 3) + ((x24 + 2) % 3))), (2, 67)]) m' Q) = Q1
              show zW E (d - 1) 91 0 [(2, 63), (0, a0), (0, i7)] [] m23 Q1
              refine zw_7 zr_91_0 rfl ?_
              refine zw_46r (s := 65) zr_91_1 rfl rfl rfl rfl ?_
              refine zw_3 zr_91_4 rfl ?_
              refine zw_push zr_91_5 ?_
              refine zw_18 zr_91_7 (by omega) ?_
              refine zw_3 zr_91_8 rfl ?_
              refine zw_16 zr_91_9 (by omega) ?_
              refine zw_48 (c := 65) (len := 100) zr_91_10 rfl rfl (by omega) (by omega) ?_
              intro x28 ex28
              have bx28 := ib_65 hIm23 (k := (((a0 * 10) + i7)).toNat) (by omega)
              rw [← ex28] at bx28
              have qx28 : x28 = F65 (((a0 * 10) + i7)).toNat := by rw [← fm23_65]; exact ex28
              clear ex28
              refine zw_R zr_91_11 (by decide) zm_91 (v := (0, x28)) rfl ?_
              rw [← hQ1]
              show zW E (d) 95 85 [(2, 63), (0, a0), (0, i7)] [(0, x28), (0, x26), (0, ((a0 * 3) + ((x24 + 2) % 3))), (2, 67)] m23 Q
              have hZ2 := qx28
              have z30 := zGn_b hv0lp26_10 (fun k hk => by rw [← hG65]; exact ib_65 hI0 hk) (hY2.trans (zPt_ne (by omega))) (by omega) (by omega)
              refine zw_16 zr_95_85 (by omega) ?_
              refine zw_49 (c := 67) (len := 30) zr_95_86 rfl rfl (by omega) (by omega) ?_
              intro m31 em31
              have hIm31 : zInv m31 := by rw [em31]; exact iu_67 hIm23 (by omega)
              have hFm31 : zFr W_95 m0 m31 := by rw [em31]; exact hFm23.any rfl
              have fm31_65 : m31 65 = F65 := by rw [em31, zUp_fn (by decide)]; exact fm23_65
              have fm31_66 : m31 66 = F66 := by rw [em31, zUp_fn (by decide)]; exact fm23_66
              have fm31_67 : m31 67 = zPt (zPt f9 ((((a0 * 3) + ((x16 + 1) % 3))).toNat) ((x18 + x20))) ((((a0 * 3) + ((x24 + 2) % 3))).toNat) ((x26 + x28)) := by rw [em31]; exact (zUp_ff (m := m23)).trans (congrArg (fun q => zPt q ((((a0 * 3) + ((x24 + 2) % 3))).toNat) ((x26 + x28))) fm23_67)
              clear em31
              refine zw_15 (c := 1) (L' := [(2, 63), (0, a0), (0, (i7 + 1))]) zr_95_87 rfl (by decide) (by omega) rfl ?_
              refine zw_42 zr_95_90 ?_
              exact zw_less (L := [(2, 63), (0, a0), (0, (i7 + 1))]) ⟨Or.inr rfl, Or.inr rfl, Or.inr rfl, trivial⟩ (ihlp26_10 ((i7 + 1)) (zPt (zPt f9 ((((a0 * 3) + ((x16 + 1) % 3))).toNat) ((x18 + x20))) ((((a0 * 3) + ((x24 + 2) % 3))).toNat) ((x26 + x28))) m31 hIm31 hFm31   fm31_65 fm31_66 fm31_67 (by omega) (by omega) (zGn_put hv0lp26_10 (by omega) (by omega) (by omega) rfl rfl hY hZ (by omega) hY2 hZ2 (by omega)) (zAg_pt (zAg_pt hv1lp26_10 (by omega)) (by omega)) (by omega) (by omega))
        exact lp26_10 _ (0) (f3) m2 hIm2 hFm2  fm2_65 fm2_66 fm2_67 (by omega) (by omega) (zGn_0 hv0lp2_4 (by omega)) (hv1lp2_4) (by omega) (Nat.lt_succ_self _)
      · intro h36
        refine zw_7 zr_95_7 rfl ?_
        refine zw_46r (s := 67) zr_95_8 rfl rfl rfl rfl ?_
        refine zw_3 zr_95_11 rfl ?_
        refine zw_push zr_95_12 ?_
        refine zw_18 zr_95_13 (by omega) ?_
        refine zw_3 zr_95_14 rfl ?_
        refine zw_16 zr_95_15 (by omega) ?_
        refine zw_push zr_95_16 ?_
        refine zw_49 (c := 67) (len := 30) zr_95_17 rfl rfl (by omega) (by omega) ?_
        intro m37 em37
        have hIm37 : zInv m37 := by rw [em37]; exact iu_67 hIm2 (by omega)
        have hFm37 : zFr W_95 m0 m37 := by rw [em37]; exact hFm2.any rfl
        have fm37_65 : m37 65 = F65 := by rw [em37, zUp_fn (by decide)]; exact fm2_65
        have fm37_66 : m37 66 = F66 := by rw [em37, zUp_fn (by decide)]; exact fm2_66
        have fm37_67 : m37 67 = zPt f3 ((((a0 * 3) + i1)).toNat) 0 := by rw [em37]; exact (zUp_ff (m := m2)).trans (congrArg (fun q => zPt q ((((a0 * 3) + i1)).toNat) 0) fm2_67)
        clear em37
        refine zw_15 (c := 1) (L' := [(2, 63), (0, a0), (0, (i1 + 1))]) zr_95_18 rfl (by decide) (by omega) rfl ?_
        refine zw_42 zr_95_21 ?_
        exact zw_less (L := [(2, 63), (0, a0), (0, (i1 + 1))]) ⟨Or.inr rfl, Or.inr rfl, Or.inr rfl, trivial⟩ (ihlp2_4 ((i1 + 1)) (zPt f3 ((((a0 * 3) + i1)).toNat) 0) m37 hIm37 hFm37   fm37_65 fm37_66 fm37_67 (by omega) (by omega) (zGz_s hv0lp2_4 (by omega) (by omega)) (zAg_pt hv1lp2_4 (by omega)) (by omega))
  exact lp2_4 _ (0) (F67) m0 hI0 hF0  hG65 hG66 hG67 (by omega) (by omega) (zGz_0) (zAg_r) (Nat.lt_succ_self _)

abbrev W_96 : List (Nat × Nat) := [(63, 0), (64, 1000), (66, 1000), (67, 1000)]
def rs_96 (E : zE) (d : Nat) : Prop := ∀ (m0 : zM) (a0 : Int) (a1 : Int) (g0 : Int) (g1 : Int) (F64 : Nat → Int) (F65 : Nat → Int) (F66 : Nat → Int) (F67 : Nat → Int) (F68 : Nat → Int), (10 - a0).toNat + 4 ≤ d → zInv m0 → (m0 1 0 = g0) → (m0 63 0 = g1) → (m0 64 = F64) → (m0 65 = F65) → (m0 66 = F66) → (m0 67 = F67) → (m0 68 = F68) → (0 ≤ a0 ∧ a0 ≤ 10) → (0 ≤ a1 ∧ a1 ≤ 6000) → (zRb F65 F68 g0 0) → (a1 = wS F65 F66 a0.toNat) → (a0 < 1 ∨ F66 0 = 0) → (a0 ≤ g0) → zC E d 96 [(2, 63), (0, a0), (0, a1)] m0 (fun v m' => v = (9, 0) ∧ zInv m' ∧ zFr W_96 m0 m' ∧ (zGw F65 g0 (zXt g0 F66 a0) g1 F64 (m' 63 0) (m' 64)) ∧ (zAg (m' 66) F66 a0) ∧ (zAg (m' 67) F67 (3 * a0)))
set_option maxHeartbeats 8000000 in
theorem tr_96 {E : zE} {d : Nat} (ih96 : rs_96 E (d - 1)) : rs_96 E d := by
  intro m0 a0 a1 g0 g1 F64 F65 F66 F67 F68 hd hI0 hg0 hg1 hG64 hG65 hG66 hG67 hG68 ha0 ha1 hp0 hp1 hp2 hp3
  have hF0 : zFr W_96 m0 m0 := zFr.rfl
  have bg0 := ib_1_0 hI0
  rw [hg0] at bg0
  have bg1 := ib_63_0 hI0
  rw [hg1] at bg1
  generalize hQ : (fun (v : zV) (m' : zM) => v = (9, 0) ∧ zInv m' ∧ zFr W_96 m0 m' ∧ (zGw F65 g0 (zXt g0 F66 a0) g1 F64 (m' 63 0) (m' 64)) ∧ (zAg (m' 66) F66 a0) ∧ (zAg (m' 67) F67 (3 * a0))) = Q
  show zW E d 96 0 [(2, 63), (0, a0), (0, a1), (9, 0), (9, 0), (9, 0)] [] m0 Q
  refine zw_3 zr_96_0 rfl ?_
  refine zw_7 zr_96_1 rfl ?_
  refine zw_46r (s := 1) zr_96_2 rfl rfl rfl rfl ?_
  refine zw_46i zr_96_5 hg0 rfl rfl rfl ?_
  refine zw_41_0 zr_96_8 ?_ ?_
  · intro h1
    refine zw_7 zr_96_40 rfl ?_
    refine zw_3 zr_96_41 rfl ?_
    refine zw_C zr_96_42 (Or.inl rfl) zm_95 rfl rfl ⟨Nat.le_of_ble_eq_true rfl, Nat.le_of_ble_eq_true rfl, Nat.le_of_ble_eq_true rfl, rfl, by decide⟩ (by omega) (th_95 (d := d - 1) (by omega) hI0 (a0 := a0)   (F65 := F65) (F66 := F66) (F67 := F67)  hG65 hG66 hG67 (by omega) ) ?_
    rintro _ m2 ⟨rfl, hIm2, gm2, po0_m2, po1_m2⟩
    have hFm2 : zFr W_96 m0 m2 := hF0.trans gm2 rfl
    have km2_1_0 : m2 1 0 = g0 := (gm2 1 0 rfl).trans hg0
    have km2_63_0 : m2 63 0 = g1 := (gm2 63 0 rfl).trans hg1
    have fm2_64 : m2 64 = F64 := (funext fun k => gm2 64 k rfl).trans hG64
    have fm2_65 : m2 65 = F65 := (funext fun k => gm2 65 k rfl).trans hG65
    have fm2_66 : m2 66 = F66 := (funext fun k => gm2 66 k rfl).trans hG66
    obtain ⟨f3, fm2_67⟩ : ∃ f, m2 67 = f := ⟨_, rfl⟩
    try rw [fm2_67] at po0_m2
    try rw [fm2_67] at po1_m2
    have fm2_68 : m2 68 = F68 := (funext fun k => gm2 68 k rfl).trans hG68
    show zW E (d) 96 45 [(2, 63), (0, a0), (0, a1), (9, 0), (9, 0), (9, 0)] [] m2 Q
    refine zw_3 zr_96_45 rfl ?_
    refine zw_40_4 zr_96_46 ?_ ?_
    · intro h4
      refine zw_push zr_96_53 ?_
      refine zw_9 (L' := [(2, 63), (0, a0), (0, a1), (0, 3), (9, 0), (9, 0)]) zr_96_54 (Nat.le_of_ble_eq_true rfl) rfl ?_
      refine zw_push zr_96_55 ?_
      refine zw_10 (L' := [(2, 63), (0, a0), (0, a1), (0, 3), (0, 0), (9, 0)]) zr_96_56 (Nat.le_of_ble_eq_true rfl) rfl ?_
      have lp58_11 : ∀ (nlp58_11 : Nat) (i5 p7 : Int) (f8 : Nat → Int) (f9 : Nat → Int) (f10 : Nat → Int) (m6 : zM), zInv m6 → zFr W_96 m0 m6 → m6 1 0 = g0 → m6 63 0 = p7 → m6 64 = f8 → m6 65 = F65 → m6 66 = f9 → m6 67 = f10 → m6 68 = F68 → 0 ≤ i5 → i5 ≤ 3 → (-1) ≤ p7 → p7 ≤ 6000 → (zGw F65 g0 (zXw g0 F66 a0 i5) g1 F64 p7 f8) → (zAg f9 F66 a0) → (zGn f10 F65 F66 a0 a0) → (zAg f10 F67 (3 * a0)) → (0 ≤ i5 ∧ i5 ≤ 3) → (3 - i5).toNat < nlp58_11 → zW E (d) 96 58 [(2, 63), (0, a0), (0, a1), (0, 3), (0, i5), (9, 0)] [] m6 Q := by
        intro nlp58_11
        induction nlp58_11 with
        | zero =>
          intros
          exact absurd (by assumption : _ < 0) (Nat.not_lt_zero _)
        | succ nlp58_11 ihlp58_11 =>
          intro i5 p7 f8 f9 f10 m6 hIm6 hFm6 km6_1_0 km6_63_0 fm6_64 fm6_65 fm6_66 fm6_67 fm6_68 li5 ui5 lp7 up7 hv0lp58_11 hv1lp58_11 hv2lp58_11 hv3lp58_11 hv4lp58_11 hmlp58_11
          refine zw_4 zr_96_58 rfl ?_
          refine zw_3 zr_96_60 rfl ?_
          refine zw_41_3 zr_96_61 ?_ ?_
          · intro h13
            refine zw_R zr_96_120 (by decide) zm_96 (v := (9, 0)) rfl ?_
            rw [← hQ]; exact ⟨rfl, hIm6, hFm6, by rw [km6_63_0, fm6_64]; first | exact zGw_e hv0lp58_11 (by omega) (by omega) | exact zGw_l (by omega) (by omega) hp1 (by omega) | exact zGw_t (by omega) (by omega) hp1 (by omega) (fun i hi => by rw [← hG66]; exact ib_66 hI0 (by omega)) (by omega) (fun i hi => zCf_lt (by omega)), by rw [fm6_66]; first | exact hv1lp58_11 | exact zAg_r, by rw [fm6_67]; first | exact hv3lp58_11 | exact zAg_r⟩
          · intro h17
            refine zw_3 zr_96_64 rfl ?_
            refine zw_7 zr_96_65 rfl ?_
            refine zw_46r (s := 67) zr_96_66 rfl rfl rfl rfl ?_
            refine zw_3 zr_96_69 rfl ?_
            refine zw_push zr_96_70 ?_
            refine zw_18 zr_96_71 (by omega) ?_
            refine zw_4 zr_96_72 rfl ?_
            refine zw_16 zr_96_74 (by omega) ?_
            refine zw_48 (c := 67) (len := 30) zr_96_75 rfl rfl (by omega) (by omega) ?_
            intro x18 ex18
            have bx18 := ib_67 hIm6 (k := (((a0 * 3) + i5)).toNat) (by omega)
            rw [← ex18] at bx18
            have qx18 : x18 = f10 (((a0 * 3) + i5)).toNat := by rw [← fm6_67]; exact ex18
            clear ex18
            have hg := zGn_w hv2lp58_11 rfl (by omega) (by omega) rfl qx18
            refine zw_16 zr_96_76 (by omega) ?_
            refine zw_10 (L' := [(2, 63), (0, a0), (0, a1), (0, 3), (0, i5), (0, (a1 + x18))]) zr_96_77 (Nat.le_of_ble_eq_true rfl) rfl ?_
            have hn := wS_nx (P := g0) (w := i5) (fun k hk => by rw [← hG65]; exact ib_65 hI0 hk) hv1lp58_11 (fun i hi => by rw [← hG66]; exact ib_66 hI0 (by omega)) (by omega) (by omega) hp1 hg rfl
            refine zw_4 zr_96_79 rfl ?_
            refine zw_7 zr_96_81 rfl ?_
            refine zw_46r (s := 68) zr_96_82 rfl rfl rfl rfl ?_
            refine zw_3 zr_96_85 rfl ?_
            refine zw_push zr_96_86 ?_
            refine zw_16 zr_96_87 (by omega) ?_
            refine zw_48 (c := 68) (len := 11) zr_96_88 rfl rfl (by omega) (by omega) ?_
            intro x21 ex21
            have bx21 := ib_68 hIm6 (k := ((a0 + 1)).toNat) (by omega)
            rw [← ex21] at bx21
            have qx21 : x21 = F68 ((a0 + 1)).toNat := by rw [← fm6_68]; exact ex21
            clear ex21
            refine zw_16 zr_96_89 (by omega) ?_
            refine zw_7 zr_96_90 rfl ?_
            refine zw_46i zr_96_91 km6_63_0 rfl rfl rfl ?_
            refine zw_41_5 zr_96_94 ?_ ?_
            · intro h22
              refine zw_15 (c := 1) (L' := [(2, 63), (0, a0), (0, a1), (0, 3), (0, (i5 + 1)), (0, (a1 + x18))]) zr_96_114 rfl (by decide) (by omega) rfl ?_
              refine zw_42 zr_96_117 ?_
              exact zw_less (L := [(2, 63), (0, a0), (0, a1), (0, 3), (0, (i5 + 1)), (9, 0)]) ⟨Or.inr rfl, Or.inr rfl, Or.inr rfl, Or.inr rfl, Or.inr rfl, Or.inl rfl, trivial⟩ (ihlp58_11 ((i5 + 1)) (p7) (f8) (f9) (f10) m6 hIm6 hFm6  km6_1_0 km6_63_0 fm6_64 fm6_65 fm6_66 fm6_67 fm6_68 (by omega) (by omega) (by omega) (by omega) (by first | exact zGw_in hv0lp58_11 hv1lp58_11 (by omega) zz | exact zGw_out hv0lp58_11 hv1lp58_11 (by omega) hp0 hn.1 (by omega)) (by first | exact zAg_q zz hv1lp58_11 | exact hv1lp58_11) (by first | exact zGn_k hv2lp58_11 zz (by omega) | exact hv2lp58_11) (by first | exact zAg_t zz hv3lp58_11 (by omega) | exact hv3lp58_11) (by omega) (by omega))
            · intro h27
              refine zw_7 zr_96_97 rfl ?_
              refine zw_46r (s := 66) zr_96_98 rfl rfl rfl rfl ?_
              refine zw_3 zr_96_101 rfl ?_
              refine zw_4 zr_96_102 rfl ?_
              refine zw_49 (c := 66) (len := 10) zr_96_104 rfl rfl (by omega) (by omega) ?_
              intro m28 em28
              have hIm28 : zInv m28 := by rw [em28]; exact iu_66 hIm6 (by omega)
              have hFm28 : zFr W_96 m0 m28 := by rw [em28]; exact hFm6.any rfl
              have km28_1_0 : m28 1 0 = g0 := by rw [em28, zUp_ne (by omega)]; exact km6_1_0
              have km28_63_0 : m28 63 0 = p7 := by rw [em28, zUp_ne (by omega)]; exact km6_63_0
              have fm28_64 : m28 64 = f8 := by rw [em28, zUp_fn (by decide)]; exact fm6_64
              have fm28_65 : m28 65 = F65 := by rw [em28, zUp_fn (by decide)]; exact fm6_65
              have fm28_66 : m28 66 = zPt f9 ((a0).toNat) i5 := by rw [em28]; exact (zUp_ff (m := m6)).trans (congrArg (fun q => zPt q ((a0).toNat) i5) fm6_66)
              have fm28_67 : m28 67 = f10 := by rw [em28, zUp_fn (by decide)]; exact fm6_67
              have fm28_68 : m28 68 = F68 := by rw [em28, zUp_fn (by decide)]; exact fm6_68
              clear em28
              refine zw_7 zr_96_105 rfl ?_
              refine zw_3 zr_96_106 rfl ?_
              refine zw_push zr_96_107 ?_
              refine zw_16 zr_96_108 (by omega) ?_
              refine zw_4 zr_96_109 rfl ?_
              refine zw_C zr_96_111 (Or.inl rfl) zm_96 rfl rfl ⟨Nat.le_of_ble_eq_true rfl, Nat.le_of_ble_eq_true rfl, Nat.le_of_ble_eq_true rfl, rfl, by decide⟩ (by omega) (ih96 m28 ((a0 + 1)) ((a1 + x18)) (g0) (p7) (f8) (F65) (zPt f9 ((a0).toNat) i5) (f10) (F68) (by omega) hIm28 km28_1_0 km28_63_0 fm28_64 fm28_65 fm28_66 fm28_67 fm28_68 (by omega) (by omega) (hp0) (hn.1) (zW0 hv1lp58_11 hp2 (by omega) (by omega)) (by omega)) ?_
              rintro _ m32 ⟨rfl, hIm32, gm32, po0_m32, po1_m32, po2_m32⟩
              have hFm32 : zFr W_96 m0 m32 := hFm28.trans gm32 rfl
              have km32_1_0 : m32 1 0 = g0 := (gm32 1 0 rfl).trans km28_1_0
              obtain ⟨f33, fm32_64⟩ : ∃ f, m32 64 = f := ⟨_, rfl⟩
              try rw [fm32_64] at po0_m32
              have fm32_65 : m32 65 = F65 := (funext fun k => gm32 65 k rfl).trans fm28_65
              obtain ⟨f34, fm32_66⟩ : ∃ f, m32 66 = f := ⟨_, rfl⟩
              try rw [fm32_66] at po1_m32
              obtain ⟨f35, fm32_67⟩ : ∃ f, m32 67 = f := ⟨_, rfl⟩
              try rw [fm32_67] at po2_m32
              have fm32_68 : m32 68 = F68 := (funext fun k => gm32 68 k rfl).trans fm28_68
              obtain ⟨f36, ef36⟩ : ∃ v, m32 63 0 = v := ⟨_, rfl⟩
              have bf36 := ib_63_0 hIm32
              rw [ef36] at bf36
              rw [ef36] at po0_m32
              show zW E (d) 96 114 [(2, 63), (0, a0), (0, a1), (0, 3), (0, i5), (0, (a1 + x18))] [] m32 Q
              refine zw_15 (c := 1) (L' := [(2, 63), (0, a0), (0, a1), (0, 3), (0, (i5 + 1)), (0, (a1 + x18))]) zr_96_114 rfl (by decide) (by omega) rfl ?_
              refine zw_42 zr_96_117 ?_
              exact zw_less (L := [(2, 63), (0, a0), (0, a1), (0, 3), (0, (i5 + 1)), (9, 0)]) ⟨Or.inr rfl, Or.inr rfl, Or.inr rfl, Or.inr rfl, Or.inr rfl, Or.inl rfl, trivial⟩ (ihlp58_11 ((i5 + 1)) (f36) (f33) (f34) (f35) m32 hIm32 hFm32  km32_1_0 ef36 fm32_64 fm32_65 fm32_66 fm32_67 fm32_68 (by omega) (by omega) (by omega) (by omega) (by first | exact zGw_in hv0lp58_11 hv1lp58_11 (by omega) po0_m32 | exact zGw_out hv0lp58_11 hv1lp58_11 (by omega) hp0 hn.1 (by omega)) (by first | exact zAg_q po1_m32 hv1lp58_11 | exact hv1lp58_11) (by first | exact zGn_k hv2lp58_11 po2_m32 (by omega) | exact hv2lp58_11) (by first | exact zAg_t po2_m32 hv3lp58_11 (by omega) | exact hv3lp58_11) (by omega) (by omega))
      exact lp58_11 _ (0) (g1) (F64) (F66) (f3) m2 hIm2 hFm2  km2_1_0 km2_63_0 fm2_64 fm2_65 fm2_66 fm2_67 fm2_68 (by omega) (by omega) (by omega) (by omega) (zGw_0 (by omega)) (zAg_r) (po0_m2) (po1_m2) (by omega) (Nat.lt_succ_self _)
    · intro h45
      refine zw_push zr_96_49 ?_
      refine zw_42 zr_96_50 ?_
      refine zw_9 (L' := [(2, 63), (0, a0), (0, a1), (0, 1), (9, 0), (9, 0)]) zr_96_54 (Nat.le_of_ble_eq_true rfl) rfl ?_
      refine zw_push zr_96_55 ?_
      refine zw_10 (L' := [(2, 63), (0, a0), (0, a1), (0, 1), (0, 0), (9, 0)]) zr_96_56 (Nat.le_of_ble_eq_true rfl) rfl ?_
      have lp58_52 : ∀ (nlp58_52 : Nat) (i46 p48 : Int) (f49 : Nat → Int) (f50 : Nat → Int) (f51 : Nat → Int) (m47 : zM), zInv m47 → zFr W_96 m0 m47 → m47 1 0 = g0 → m47 63 0 = p48 → m47 64 = f49 → m47 65 = F65 → m47 66 = f50 → m47 67 = f51 → m47 68 = F68 → 0 ≤ i46 → i46 ≤ 3 → (-1) ≤ p48 → p48 ≤ 6000 → (zGw F65 g0 (zXw g0 F66 a0 i46) g1 F64 p48 f49) → (zAg f50 F66 a0) → (zGn f51 F65 F66 a0 a0) → (zAg f51 F67 (3 * a0)) → (0 ≤ i46 ∧ i46 ≤ 1) → (3 - i46).toNat < nlp58_52 → zW E (d) 96 58 [(2, 63), (0, a0), (0, a1), (0, 1), (0, i46), (9, 0)] [] m47 Q := by
        intro nlp58_52
        induction nlp58_52 with
        | zero =>
          intros
          exact absurd (by assumption : _ < 0) (Nat.not_lt_zero _)
        | succ nlp58_52 ihlp58_52 =>
          intro i46 p48 f49 f50 f51 m47 hIm47 hFm47 km47_1_0 km47_63_0 fm47_64 fm47_65 fm47_66 fm47_67 fm47_68 li46 ui46 lp48 up48 hv0lp58_52 hv1lp58_52 hv2lp58_52 hv3lp58_52 hv4lp58_52 hmlp58_52
          refine zw_4 zr_96_58 rfl ?_
          refine zw_3 zr_96_60 rfl ?_
          refine zw_41_3 zr_96_61 ?_ ?_
          · intro h54
            refine zw_R zr_96_120 (by decide) zm_96 (v := (9, 0)) rfl ?_
            rw [← hQ]; exact ⟨rfl, hIm47, hFm47, by rw [km47_63_0, fm47_64]; first | exact zGw_e hv0lp58_52 (by omega) (by omega) | exact zGw_l (by omega) (by omega) hp1 (by omega) | exact zGw_t (by omega) (by omega) hp1 (by omega) (fun i hi => by rw [← hG66]; exact ib_66 hI0 (by omega)) (by omega) (fun i hi => zCf_lt (by omega)), by rw [fm47_66]; first | exact hv1lp58_52 | exact zAg_r, by rw [fm47_67]; first | exact hv3lp58_52 | exact zAg_r⟩
          · intro h58
            refine zw_3 zr_96_64 rfl ?_
            refine zw_7 zr_96_65 rfl ?_
            refine zw_46r (s := 67) zr_96_66 rfl rfl rfl rfl ?_
            refine zw_3 zr_96_69 rfl ?_
            refine zw_push zr_96_70 ?_
            refine zw_18 zr_96_71 (by omega) ?_
            refine zw_4 zr_96_72 rfl ?_
            refine zw_16 zr_96_74 (by omega) ?_
            obtain ⟨f59, ef59⟩ : ∃ v, m47 67 0 = v := ⟨_, rfl⟩
            have bf59 : 0 ≤ m47 67 0 ∧ m47 67 0 ≤ 1200 := ib_67 hIm47 (by omega)
            rw [ef59] at bf59
            refine zw_48k (c := 67) (len := 30) zr_96_75 rfl rfl (by omega) (by omega) (show (((a0 * 3) + i46) : Int).toNat = 0 by omega) ef59 ?_
            have qf59 : f59 = f51 (((a0 * 3) + i46) : Int).toNat := by rw [show (((a0 * 3) + i46) : Int).toNat = 0 by omega, ← fm47_67]; exact (ef59).symm
            have hg := zGn_w hv2lp58_52 rfl (by omega) (by omega) rfl qf59
            refine zw_16 zr_96_76 (by omega) ?_
            refine zw_10 (L' := [(2, 63), (0, a0), (0, a1), (0, 1), (0, i46), (0, (a1 + f59))]) zr_96_77 (Nat.le_of_ble_eq_true rfl) rfl ?_
            have hn := wS_nx (P := g0) (w := i46) (fun k hk => by rw [← hG65]; exact ib_65 hI0 hk) hv1lp58_52 (fun i hi => by rw [← hG66]; exact ib_66 hI0 (by omega)) (by omega) (by omega) hp1 hg rfl
            refine zw_4 zr_96_79 rfl ?_
            refine zw_7 zr_96_81 rfl ?_
            refine zw_46r (s := 68) zr_96_82 rfl rfl rfl rfl ?_
            refine zw_3 zr_96_85 rfl ?_
            refine zw_push zr_96_86 ?_
            refine zw_16 zr_96_87 (by omega) ?_
            obtain ⟨f62, ef62⟩ : ∃ v, m47 68 1 = v := ⟨_, rfl⟩
            have bf62 : 0 ≤ m47 68 1 ∧ m47 68 1 ≤ 6000 := ib_68 hIm47 (by omega)
            rw [ef62] at bf62
            refine zw_48k (c := 68) (len := 11) zr_96_88 rfl rfl (by omega) (by omega) (show ((a0 + 1) : Int).toNat = 1 by omega) ef62 ?_
            have qf62 : f62 = F68 ((a0 + 1) : Int).toNat := by rw [show ((a0 + 1) : Int).toNat = 1 by omega, ← fm47_68]; exact (ef62).symm
            refine zw_16 zr_96_89 (by omega) ?_
            refine zw_7 zr_96_90 rfl ?_
            refine zw_46i zr_96_91 km47_63_0 rfl rfl rfl ?_
            refine zw_41_5 zr_96_94 ?_ ?_
            · intro h63
              refine zw_15 (c := 1) (L' := [(2, 63), (0, a0), (0, a1), (0, 1), (0, (i46 + 1)), (0, (a1 + f59))]) zr_96_114 rfl (by decide) (by omega) rfl ?_
              refine zw_42 zr_96_117 ?_
              exact zw_less (L := [(2, 63), (0, a0), (0, a1), (0, 1), (0, (i46 + 1)), (9, 0)]) ⟨Or.inr rfl, Or.inr rfl, Or.inr rfl, Or.inr rfl, Or.inr rfl, Or.inl rfl, trivial⟩ (ihlp58_52 ((i46 + 1)) (p48) (f49) (f50) (f51) m47 hIm47 hFm47  km47_1_0 km47_63_0 fm47_64 fm47_65 fm47_66 fm47_67 fm47_68 (by omega) (by omega) (by omega) (by omega) (by first | exact zGw_in hv0lp58_52 hv1lp58_52 (by omega) zz | exact zGw_out hv0lp58_52 hv1lp58_52 (by omega) hp0 hn.1 (by omega)) (by first | exact zAg_q zz hv1lp58_52 | exact hv1lp58_52) (by first | exact zGn_k hv2lp58_52 zz (by omega) | exact hv2lp58_52) (by first | exact zAg_t zz hv3lp58_52 (by omega) | exact hv3lp58_52) (by omega) (by omega))
            · intro h68
              refine zw_7 zr_96_97 rfl ?_
              refine zw_46r (s := 66) zr_96_98 rfl rfl rfl rfl ?_
              refine zw_3 zr_96_101 rfl ?_
              refine zw_4 zr_96_102 rfl ?_
              refine zw_49 (c := 66) (len := 10) zr_96_104 rfl rfl (by omega) (by omega) ?_
              intro m69 em69
              have hIm69 : zInv m69 := by rw [em69]; exact iu_66 hIm47 (by omega)
              have hFm69 : zFr W_96 m0 m69 := by rw [em69]; exact hFm47.any rfl
              have km69_1_0 : m69 1 0 = g0 := by rw [em69, zUp_ne (by omega)]; exact km47_1_0
              have km69_63_0 : m69 63 0 = p48 := by rw [em69, zUp_ne (by omega)]; exact km47_63_0
              have km69_67_0 : m69 67 0 = f59 := by rw [em69, zUp_ne (by omega)]; exact ef59
              have km69_68_1 : m69 68 1 = f62 := by rw [em69, zUp_ne (by omega)]; exact ef62
              have km69_66_0 : m69 66 0 = i46 := by rw [em69, show (a0 : Int).toNat = 0 by omega]; exact zUp_eq _ _ _ _
              have fm69_64 : m69 64 = f49 := by rw [em69, zUp_fn (by decide)]; exact fm47_64
              have fm69_65 : m69 65 = F65 := by rw [em69, zUp_fn (by decide)]; exact fm47_65
              have fm69_66 : m69 66 = zPt f50 ((a0).toNat) i46 := by rw [em69]; exact (zUp_ff (m := m47)).trans (congrArg (fun q => zPt q ((a0).toNat) i46) fm47_66)
              have fm69_67 : m69 67 = f51 := by rw [em69, zUp_fn (by decide)]; exact fm47_67
              have fm69_68 : m69 68 = F68 := by rw [em69, zUp_fn (by decide)]; exact fm47_68
              clear em69
              refine zw_7 zr_96_105 rfl ?_
              refine zw_3 zr_96_106 rfl ?_
              refine zw_push zr_96_107 ?_
              refine zw_16 zr_96_108 (by omega) ?_
              refine zw_4 zr_96_109 rfl ?_
              refine zw_C zr_96_111 (Or.inl rfl) zm_96 rfl rfl ⟨Nat.le_of_ble_eq_true rfl, Nat.le_of_ble_eq_true rfl, Nat.le_of_ble_eq_true rfl, rfl, by decide⟩ (by omega) (ih96 m69 ((a0 + 1)) ((a1 + f59)) (g0) (p48) (f49) (F65) (zPt f50 ((a0).toNat) i46) (f51) (F68) (by omega) hIm69 km69_1_0 km69_63_0 fm69_64 fm69_65 fm69_66 fm69_67 fm69_68 (by omega) (by omega) (hp0) (hn.1) (zW0 hv1lp58_52 hp2 (by omega) (by omega)) (by omega)) ?_
              rintro _ m73 ⟨rfl, hIm73, gm73, po0_m73, po1_m73, po2_m73⟩
              have hFm73 : zFr W_96 m0 m73 := hFm69.trans gm73 rfl
              have km73_1_0 : m73 1 0 = g0 := (gm73 1 0 rfl).trans km69_1_0
              have km73_68_1 : m73 68 1 = f62 := (gm73 68 1 rfl).trans km69_68_1
              obtain ⟨f74, fm73_64⟩ : ∃ f, m73 64 = f := ⟨_, rfl⟩
              try rw [fm73_64] at po0_m73
              have fm73_65 : m73 65 = F65 := (funext fun k => gm73 65 k rfl).trans fm69_65
              obtain ⟨f75, fm73_66⟩ : ∃ f, m73 66 = f := ⟨_, rfl⟩
              try rw [fm73_66] at po1_m73
              obtain ⟨f76, fm73_67⟩ : ∃ f, m73 67 = f := ⟨_, rfl⟩
              try rw [fm73_67] at po2_m73
              have fm73_68 : m73 68 = F68 := (funext fun k => gm73 68 k rfl).trans fm69_68
              obtain ⟨f77, ef77⟩ : ∃ v, m73 63 0 = v := ⟨_, rfl⟩
              have bf77 := ib_63_0 hIm73
              rw [ef77] at bf77
              rw [ef77] at po0_m73
              show zW E (d) 96 114 [(2, 63), (0, a0), (0, a1), (0, 1), (0, i46), (0, (a1 + f59))] [] m73 Q
              refine zw_15 (c := 1) (L' := [(2, 63), (0, a0), (0, a1), (0, 1), (0, (i46 + 1)), (0, (a1 + f59))]) zr_96_114 rfl (by decide) (by omega) rfl ?_
              refine zw_42 zr_96_117 ?_
              exact zw_less (L := [(2, 63), (0, a0), (0, a1), (0, 1), (0, (i46 + 1)), (9, 0)]) ⟨Or.inr rfl, Or.inr rfl, Or.inr rfl, Or.inr rfl, Or.inr rfl, Or.inl rfl, trivial⟩ (ihlp58_52 ((i46 + 1)) (f77) (f74) (f75) (f76) m73 hIm73 hFm73  km73_1_0 ef77 fm73_64 fm73_65 fm73_66 fm73_67 fm73_68 (by omega) (by omega) (by omega) (by omega) (by first | exact zGw_in hv0lp58_52 hv1lp58_52 (by omega) po0_m73 | exact zGw_out hv0lp58_52 hv1lp58_52 (by omega) hp0 hn.1 (by omega)) (by first | exact zAg_q po1_m73 hv1lp58_52 | exact hv1lp58_52) (by first | exact zGn_k hv2lp58_52 po2_m73 (by omega) | exact hv2lp58_52) (by first | exact zAg_t po2_m73 hv3lp58_52 (by omega) | exact hv3lp58_52) (by omega) (by omega))
      exact lp58_52 _ (0) (g1) (F64) (F66) (f3) m2 hIm2 hFm2  km2_1_0 km2_63_0 fm2_64 fm2_65 fm2_66 fm2_67 fm2_68 (by omega) (by omega) (by omega) (by omega) (zGw_0 (by omega)) (zAg_r) (po0_m2) (po1_m2) (by omega) (Nat.lt_succ_self _)
  · intro h86
    refine zw_3 zr_96_11 rfl ?_
    refine zw_7 zr_96_12 rfl ?_
    refine zw_46i zr_96_13 hg1 rfl rfl rfl ?_
    refine zw_41_5 zr_96_16 ?_ ?_
    · intro h87
      refine zw_R zr_96_39 (by decide) zm_96 (v := (9, 0)) rfl ?_
      rw [← hQ]; exact ⟨rfl, hI0, hF0, by rw [hg1, hG64]; first | exact zGw_e zz (by omega) (by omega) | exact zGw_l (by omega) (by omega) hp1 (by omega) | exact zGw_t (by omega) (by omega) hp1 (by omega) (fun i hi => by rw [← hG66]; exact ib_66 hI0 (by omega)) (by omega) (fun i hi => zCf_lt (by omega)), by rw [hG66]; first | exact zz | exact zAg_r, by rw [hG67]; first | exact zz | exact zAg_r⟩
    · intro h91
      refine zw_7 zr_96_19 rfl ?_
      refine zw_3 zr_96_20 rfl ?_
      refine zw_47 (c := 63) zr_96_21 rfl ⟨rfl, by decide, rfl⟩ ?_
      intro m92 em92
      have hIm92 : zInv m92 := by rw [em92]; exact hI0.bd (r := 63) (k := 0) (lo := (-1)) (hi := 6000) rfl (by omega) (by decide) (by decide) (by decide)
      have hFm92 : zFr W_96 m0 m92 := by rw [em92]; exact hF0.up rfl
      have km92_1_0 : m92 1 0 = g0 := by rw [em92, zUp_ne (by omega)]; exact hg0
      have km92_63_0 : m92 63 0 = a1 := by rw [em92]; exact zUp_eq _ _ _ _
      have fm92_64 : m92 64 = F64 := by rw [em92, zUp_fn (by decide)]; exact hG64
      have fm92_65 : m92 65 = F65 := by rw [em92, zUp_fn (by decide)]; exact hG65
      have fm92_66 : m92 66 = F66 := by rw [em92, zUp_fn (by decide)]; exact hG66
      have fm92_67 : m92 67 = F67 := by rw [em92, zUp_fn (by decide)]; exact hG67
      have fm92_68 : m92 68 = F68 := by rw [em92, zUp_fn (by decide)]; exact hG68
      clear em92
      refine zw_7 zr_96_24 rfl ?_
      refine zw_46r (s := 66) zr_96_25 rfl rfl rfl rfl ?_
      refine zw_push zr_96_28 ?_
      refine zw_7 zr_96_29 rfl ?_
      refine zw_46r (s := 64) zr_96_30 rfl rfl rfl rfl ?_
      refine zw_push zr_96_33 ?_
      refine zw_push zr_96_34 ?_
      refine zw_114 (c1 := 64) (c2 := 66) (l1 := 10) (l2 := 10) zr_96_36 rfl rfl rfl rfl (by decide) (Nat.le_of_ble_eq_true rfl) (by omega) (by omega) ?_
      intro m93 em93
      have hIm93 : zInv m93 := by rw [em93]; exact zInv.cp0 hIm92 (l2 := 10) (fun _ => rfl) rfl (by omega) (by decide) (by decide)
      have hFm93 : zFr W_96 m0 m93 := by rw [em93]; exact hFm92.cp rfl
      have km93_1_0 : m93 1 0 = g0 := by rw [em93, zCp_ne (by decide)]; exact km92_1_0
      have km93_63_0 : m93 63 0 = a1 := by rw [em93, zCp_ne (by decide)]; exact km92_63_0
      have fm93_64 : m93 64 = zCf F64 F66 10 := by rw [em93]; exact (zCp_ff (m := m92) (c1 := 64) (c2 := 66) (n := 10) rfl rfl).trans (by rw [fm92_64, fm92_66])
      have fm93_65 : m93 65 = F65 := by rw [em93, zCp_fn (by decide)]; exact fm92_65
      have fm93_66 : m93 66 = F66 := by rw [em93, zCp_fn (by decide)]; exact fm92_66
      have fm93_67 : m93 67 = F67 := by rw [em93, zCp_fn (by decide)]; exact fm92_67
      have fm93_68 : m93 68 = F68 := by rw [em93, zCp_fn (by decide)]; exact fm92_68
      clear em93
      refine zw_R zr_96_39 (by decide) zm_96 (v := (9, 0)) rfl ?_
      rw [← hQ]; exact ⟨rfl, hIm93, hFm93, by rw [km93_63_0, fm93_64]; first | exact zGw_e zz (by omega) (by omega) | exact zGw_l (by omega) (by omega) hp1 (by omega) | exact zGw_t (by omega) (by omega) hp1 (by omega) (fun i hi => by rw [← hG66]; exact ib_66 hI0 (by omega)) (by omega) (fun i hi => zCf_lt (by omega)), by rw [fm93_66]; first | exact zz | exact zAg_r, by rw [fm93_67]; first | exact zz | exact zAg_r⟩
theorem gr_96 (E : zE) : ∀ d, rs_96 E d := by
  intro d
  induction d with
  | zero => exact (by intro m0 a0 a1 g0 g1 F64 F65 F66 F67 F68 hd; exfalso; omega)
  | succ d ih => exact tr_96 (d := d + 1) ih
theorem th_96 {E : zE} {d : Nat} {m0 : zM} {a0 : Int} {a1 : Int} {g0 : Int} {g1 : Int} {F64 : Nat → Int} {F65 : Nat → Int} {F66 : Nat → Int} {F67 : Nat → Int} {F68 : Nat → Int} (hd : (10 - a0).toNat + 4 ≤ d) (hI0 : zInv m0) (hg0 : m0 1 0 = g0) (hg1 : m0 63 0 = g1) (hG64 : m0 64 = F64) (hG65 : m0 65 = F65) (hG66 : m0 66 = F66) (hG67 : m0 67 = F67) (hG68 : m0 68 = F68) (ha0 : 0 ≤ a0 ∧ a0 ≤ 10) (ha1 : 0 ≤ a1 ∧ a1 ≤ 6000) (hp0 : zRb F65 F68 g0 0) (hp1 : a1 = wS F65 F66 a0.toNat) (hp2 : a0 < 1 ∨ F66 0 = 0) (hp3 : a0 ≤ g0) : zC E d 96 [(2, 63), (0, a0), (0, a1)] m0 (fun v m' => v = (9, 0) ∧ zInv m' ∧ zFr W_96 m0 m' ∧ (zGw F65 g0 (zXt g0 F66 a0) g1 F64 (m' 63 0) (m' 64)) ∧ (zAg (m' 66) F66 a0) ∧ (zAg (m' 67) F67 (3 * a0))) := (gr_96 E d) m0 a0 a1 g0 g1 F64 F65 F66 F67 F68 hd hI0 hg0 hg1 hG64 hG65 hG66 hG67 hG68 ha0 ha1 hp0 hp1 hp2 hp3

abbrev W_97 : List (Nat × Nat) := [(63, 0), (64, 1000), (65, 1000), (66, 1000), (67, 1000), (68, 1000)]
set_option maxHeartbeats 8000000 in
theorem th_97 {E : zE} {d : Nat} {m0 : zM} {g0 : Int} {g1 : Int} {g2 : Int} {F6 : Nat → Int} {F7 : Nat → Int} {F8 : Nat → Int} {F64 : Nat → Int} {F65 : Nat → Int} {F66 : Nat → Int} {F67 : Nat → Int} {F68 : Nat → Int} (hd : 15 ≤ d) (hI0 : zInv m0) (hg0 : m0 1 0 = g0) (hg1 : m0 1 1 = g1) (hg2 : m0 1 2 = g2) (hG6 : m0 6 = F6) (hG7 : m0 7 = F7) (hG8 : m0 8 = F8) (hG64 : m0 64 = F64) (hG65 : m0 65 = F65) (hG66 : m0 66 = F66) (hG67 : m0 67 = F67) (hG68 : m0 68 = F68) : zC E d 97 [(2, 63)] m0 (fun v m' => v = (9, 0) ∧ zInv m' ∧ zFr W_97 m0 m' ∧ (∃ f, zWn f F6 F7 F8 g2 g1 ∧ zWb f g0 (m' 63 0) (m' 64))) := by
  have hF0 : zFr W_97 m0 m0 := zFr.rfl
  have bg0 := ib_1_0 hI0
  rw [hg0] at bg0
  have bg1 := ib_1_1 hI0
  rw [hg1] at bg1
  have bg2 := ib_1_2 hI0
  rw [hg2] at bg2
  generalize hQ : (fun (v : zV) (m' : zM) => v = (9, 0) ∧ zInv m' ∧ zFr W_97 m0 m' ∧ (∃ f, zWn f F6 F7 F8 g2 g1 ∧ zWb f g0 (m' 63 0) (m' 64))) = Q
  show zW E d 97 0 [(2, 63)] [] m0 Q
  refine zw_7 zr_97_0 rfl ?_
  refine zw_C zr_97_1 (Or.inl rfl) zm_90 rfl rfl ⟨Nat.le_of_ble_eq_true rfl, Nat.le_of_ble_eq_true rfl, Nat.le_of_ble_eq_true rfl, rfl, by decide⟩ (by omega) (th_90 (d := d - 1) (by omega) hI0  (g0 := g1) (g1 := g2)  (F65 := F65) (F6 := F6) (F7 := F7) (F8 := F8) hg1 hg2 hG65 hG6 hG7 hG8  ) ?_
  rintro _ m1 ⟨rfl, hIm1, gm1, po0_m1⟩
  have hFm1 : zFr W_97 m0 m1 := hF0.trans gm1 rfl
  have km1_1_0 : m1 1 0 = g0 := (gm1 1 0 rfl).trans hg0
  have km1_1_1 : m1 1 1 = g1 := (gm1 1 1 rfl).trans hg1
  have km1_1_2 : m1 1 2 = g2 := (gm1 1 2 rfl).trans hg2
  have fm1_6 : m1 6 = F6 := (funext fun k => gm1 6 k rfl).trans hG6
  have fm1_7 : m1 7 = F7 := (funext fun k => gm1 7 k rfl).trans hG7
  have fm1_8 : m1 8 = F8 := (funext fun k => gm1 8 k rfl).trans hG8
  have fm1_64 : m1 64 = F64 := (funext fun k => gm1 64 k rfl).trans hG64
  obtain ⟨f2, fm1_65⟩ : ∃ f, m1 65 = f := ⟨_, rfl⟩
  try rw [fm1_65] at po0_m1
  have fm1_66 : m1 66 = F66 := (funext fun k => gm1 66 k rfl).trans hG66
  have fm1_67 : m1 67 = F67 := (funext fun k => gm1 67 k rfl).trans hG67
  have fm1_68 : m1 68 = F68 := (funext fun k => gm1 68 k rfl).trans hG68
  show zW E (d) 97 4 [(2, 63)] [] m1 Q
  refine zw_7 zr_97_4 rfl ?_
  refine zw_C zr_97_5 (Or.inl rfl) zm_94 rfl rfl ⟨Nat.le_of_ble_eq_true rfl, Nat.le_of_ble_eq_true rfl, Nat.le_of_ble_eq_true rfl, rfl, by decide⟩ (by omega) (th_94 (d := d - 1) (by omega) hIm1  (g0 := g0)  (F65 := f2) (F68 := F68) km1_1_0 fm1_65 fm1_68  ) ?_
  rintro _ m3 ⟨rfl, hIm3, gm3, po0_m3⟩
  have hFm3 : zFr W_97 m0 m3 := hFm1.trans gm3 rfl
  have km3_1_0 : m3 1 0 = g0 := (gm3 1 0 rfl).trans km1_1_0
  have km3_1_1 : m3 1 1 = g1 := (gm3 1 1 rfl).trans km1_1_1
  have km3_1_2 : m3 1 2 = g2 := (gm3 1 2 rfl).trans km1_1_2
  have fm3_6 : m3 6 = F6 := (funext fun k => gm3 6 k rfl).trans fm1_6
  have fm3_7 : m3 7 = F7 := (funext fun k => gm3 7 k rfl).trans fm1_7
  have fm3_8 : m3 8 = F8 := (funext fun k => gm3 8 k rfl).trans fm1_8
  have fm3_64 : m3 64 = F64 := (funext fun k => gm3 64 k rfl).trans fm1_64
  have fm3_65 : m3 65 = f2 := (funext fun k => gm3 65 k rfl).trans fm1_65
  have fm3_66 : m3 66 = F66 := (funext fun k => gm3 66 k rfl).trans fm1_66
  have fm3_67 : m3 67 = F67 := (funext fun k => gm3 67 k rfl).trans fm1_67
  obtain ⟨f4, fm3_68⟩ : ∃ f, m3 68 = f := ⟨_, rfl⟩
  try rw [fm3_68] at po0_m3
  show zW E (d) 97 8 [(2, 63)] [] m3 Q
  refine zw_7 zr_97_8 rfl ?_
  refine zw_push zr_97_9 ?_
  refine zw_47 (c := 63) zr_97_10 rfl ⟨rfl, by decide, rfl⟩ ?_
  intro m5 em5
  have hIm5 : zInv m5 := by rw [em5]; exact hIm3.bd (r := 63) (k := 0) (lo := (-1)) (hi := 6000) rfl (by omega) (by decide) (by decide) (by decide)
  have hFm5 : zFr W_97 m0 m5 := by rw [em5]; exact hFm3.up rfl
  have km5_1_0 : m5 1 0 = g0 := by rw [em5, zUp_ne (by omega)]; exact km3_1_0
  have km5_1_1 : m5 1 1 = g1 := by rw [em5, zUp_ne (by omega)]; exact km3_1_1
  have km5_1_2 : m5 1 2 = g2 := by rw [em5, zUp_ne (by omega)]; exact km3_1_2
  have km5_63_0 : m5 63 0 = (-1) := by rw [em5]; exact zUp_eq _ _ _ _
  have fm5_6 : m5 6 = F6 := by rw [em5, zUp_fn (by decide)]; exact fm3_6
  have fm5_7 : m5 7 = F7 := by rw [em5, zUp_fn (by decide)]; exact fm3_7
  have fm5_8 : m5 8 = F8 := by rw [em5, zUp_fn (by decide)]; exact fm3_8
  have fm5_64 : m5 64 = F64 := by rw [em5, zUp_fn (by decide)]; exact fm3_64
  have fm5_65 : m5 65 = f2 := by rw [em5, zUp_fn (by decide)]; exact fm3_65
  have fm5_66 : m5 66 = F66 := by rw [em5, zUp_fn (by decide)]; exact fm3_66
  have fm5_67 : m5 67 = F67 := by rw [em5, zUp_fn (by decide)]; exact fm3_67
  have fm5_68 : m5 68 = f4 := by rw [em5, zUp_fn (by decide)]; exact fm3_68
  clear em5
  refine zw_7 zr_97_13 rfl ?_
  refine zw_push zr_97_14 ?_
  refine zw_push zr_97_15 ?_
  refine zw_C zr_97_16 (Or.inl rfl) zm_96 rfl rfl ⟨Nat.le_of_ble_eq_true rfl, Nat.le_of_ble_eq_true rfl, Nat.le_of_ble_eq_true rfl, rfl, by decide⟩ (by omega) (th_96 (d := d - 1) (by omega) hIm5 (a0 := 0) (a1 := 0) (g0 := g0) (g1 := (-1))  (F64 := F64) (F65 := f2) (F66 := F66) (F67 := F67) (F68 := f4) km5_1_0 km5_63_0 fm5_64 fm5_65 fm5_66 fm5_67 fm5_68 (by omega) (by omega) (po0_m3) (rfl) (by omega) (by omega)) ?_
  rintro _ m8 ⟨rfl, hIm8, gm8, po0_m8, po1_m8, po2_m8⟩
  have hFm8 : zFr W_97 m0 m8 := hFm5.trans gm8 rfl
  have km8_1_0 : m8 1 0 = g0 := (gm8 1 0 rfl).trans km5_1_0
  have km8_1_1 : m8 1 1 = g1 := (gm8 1 1 rfl).trans km5_1_1
  have km8_1_2 : m8 1 2 = g2 := (gm8 1 2 rfl).trans km5_1_2
  have fm8_6 : m8 6 = F6 := (funext fun k => gm8 6 k rfl).trans fm5_6
  have fm8_7 : m8 7 = F7 := (funext fun k => gm8 7 k rfl).trans fm5_7
  have fm8_8 : m8 8 = F8 := (funext fun k => gm8 8 k rfl).trans fm5_8
  obtain ⟨f9, fm8_64⟩ : ∃ f, m8 64 = f := ⟨_, rfl⟩
  try rw [fm8_64] at po0_m8
  have fm8_65 : m8 65 = f2 := (funext fun k => gm8 65 k rfl).trans fm5_65
  obtain ⟨f10, fm8_66⟩ : ∃ f, m8 66 = f := ⟨_, rfl⟩
  try rw [fm8_66] at po1_m8
  obtain ⟨f11, fm8_67⟩ : ∃ f, m8 67 = f := ⟨_, rfl⟩
  try rw [fm8_67] at po2_m8
  have fm8_68 : m8 68 = f4 := (funext fun k => gm8 68 k rfl).trans fm5_68
  obtain ⟨f12, ef12⟩ : ∃ v, m8 63 0 = v := ⟨_, rfl⟩
  have bf12 := ib_63_0 hIm8
  rw [ef12] at bf12
  rw [ef12] at po0_m8
  show zW E (d) 97 19 [(2, 63)] [] m8 Q
  refine zw_R zr_97_19 (by decide) zm_97 (v := (9, 0)) rfl ?_
  rw [← hQ]; exact ⟨rfl, hIm8, hFm8, by rw [ef12, fm8_64]; exact ⟨_, po0_m1, zWb_c (w60_n po0_m1 (by omega)) (by omega) po0_m8⟩⟩

abbrev W_125 : List (Nat × Nat) := [(63, 0), (64, 1000), (65, 1000), (66, 1000), (67, 1000), (68, 1000)]
set_option maxHeartbeats 8000000 in
theorem th_125 {E : zE} {d : Nat} {m0 : zM} {a0 : Int} {g0 : Int} {g1 : Int} {g2 : Int} {F6 : Nat → Int} {F7 : Nat → Int} {F8 : Nat → Int} {F64 : Nat → Int} (hd : 16 ≤ d) (hI0 : zInv m0) (hg0 : m0 1 0 = g0) (hg1 : m0 1 1 = g1) (hg2 : m0 1 2 = g2) (hG6 : m0 6 = F6) (hG7 : m0 7 = F7) (hG8 : m0 8 = F8) (hG64 : m0 64 = F64) (ha0 : (-2147483648) ≤ a0 ∧ a0 ≤ 2147483647) : zC E d 125 [(2, 0), (0, a0)] m0 (fun v m' => ∃ r : Int, v = (0, r) ∧ (-2147483648) ≤ r ∧ r ≤ 2147483647 ∧ zInv m' ∧ zFr W_125 m0 m' ∧ (∃ f, zWn f F6 F7 F8 g2 g1 ∧ zWa f g0 a0 r)) := by
  have hF0 : zFr W_125 m0 m0 := zFr.rfl
  have bg0 := ib_1_0 hI0
  rw [hg0] at bg0
  have bg1 := ib_1_1 hI0
  rw [hg1] at bg1
  have bg2 := ib_1_2 hI0
  rw [hg2] at bg2
  generalize hQ : (fun (v : zV) (m' : zM) => ∃ r : Int, v = (0, r) ∧ (-2147483648) ≤ r ∧ r ≤ 2147483647 ∧ zInv m' ∧ zFr W_125 m0 m' ∧ (∃ f, zWn f F6 F7 F8 g2 g1 ∧ zWa f g0 a0 r)) = Q
  show zW E d 125 0 [(2, 0), (0, a0)] [] m0 Q
  refine zw_3 zr_125_0 rfl ?_
  refine zw_push zr_125_1 ?_
  refine zw_41_1 zr_125_2 ?_ ?_
  · intro h1
    refine zw_7 zr_125_19 rfl ?_
    refine zw_46r (s := 63) zr_125_20 rfl rfl rfl rfl ?_
    refine zw_C zr_125_23 (Or.inl rfl) zm_97 rfl rfl ⟨Nat.le_of_ble_eq_true rfl, Nat.le_of_ble_eq_true rfl, Nat.le_of_ble_eq_true rfl, rfl, by decide⟩ (by omega) (th_97 (d := d - 1) (by omega) hI0  (g0 := g0) (g1 := g1) (g2 := g2)  (F6 := F6) (F7 := F7) (F8 := F8) (F64 := F64) (F65 := m0 65) (F66 := m0 66) (F67 := m0 67) (F68 := m0 68) hg0 hg1 hg2 hG6 hG7 hG8 hG64 rfl rfl rfl rfl  ) ?_
    rintro _ m2 ⟨rfl, hIm2, gm2, po0_m2⟩
    have hFm2 : zFr W_125 m0 m2 := hF0.trans gm2 rfl
    have km2_1_0 : m2 1 0 = g0 := (gm2 1 0 rfl).trans hg0
    have km2_1_1 : m2 1 1 = g1 := (gm2 1 1 rfl).trans hg1
    have km2_1_2 : m2 1 2 = g2 := (gm2 1 2 rfl).trans hg2
    have fm2_6 : m2 6 = F6 := (funext fun k => gm2 6 k rfl).trans hG6
    have fm2_7 : m2 7 = F7 := (funext fun k => gm2 7 k rfl).trans hG7
    have fm2_8 : m2 8 = F8 := (funext fun k => gm2 8 k rfl).trans hG8
    obtain ⟨f3, fm2_64⟩ : ∃ f, m2 64 = f := ⟨_, rfl⟩
    try rw [fm2_64] at po0_m2
    obtain ⟨f4, ef4⟩ : ∃ v, m2 63 0 = v := ⟨_, rfl⟩
    have bf4 := ib_63_0 hIm2
    rw [ef4] at bf4
    rw [ef4] at po0_m2
    show zW E (d) 125 26 [(2, 0), (0, a0)] [] m2 Q
    refine zw_3 zr_125_26 rfl ?_
    refine zw_push zr_125_27 ?_
    refine zw_41_4 zr_125_28 ?_ ?_
    · intro h5; omega
    · intro h6
      refine zw_7 zr_125_31 rfl ?_
      refine zw_46r (s := 63) zr_125_32 rfl rfl rfl rfl ?_
      refine zw_46i zr_125_35 ef4 rfl rfl rfl ?_
      refine zw_42 zr_125_38 ?_
      refine zw_R zr_125_50 (by decide) zm_125 (v := (0, f4)) rfl ?_
      rw [← hQ]; exact ⟨_, rfl, by omega, by omega, hIm2, hFm2, by first | exact ⟨_, zWn_i, Or.inl ⟨rfl, by omega⟩⟩ | (obtain ⟨f, z1, z2⟩ := po0_m2; first | exact ⟨f, z1, Or.inr ⟨by omega, _, _, z2, Or.inl ⟨by omega, rfl⟩⟩⟩ | exact ⟨f, z1, Or.inr ⟨by omega, _, _, z2, Or.inr ⟨by omega, qzz⟩⟩⟩)⟩
  · intro h8
    refine zw_7 zr_125_5 rfl ?_
    refine zw_46r (s := 1) zr_125_6 rfl rfl rfl rfl ?_
    refine zw_3 zr_125_9 rfl ?_
    refine zw_C zr_125_10 (Or.inl rfl) zm_49 rfl rfl ⟨Nat.le_of_ble_eq_true rfl, Nat.le_of_ble_eq_true rfl, Nat.le_of_ble_eq_true rfl, rfl, by decide⟩ (by omega) (P := (fun v m' => zW E (d) 125 13 [(2, 0), (0, a0)] (if v.1 = 9 then [] else v :: []) m' Q)) ?_ (fun _ _ h => h)
    generalize hQ1 : (fun v m' => zW E (d) 125 13 [(2, 0), (0, a0)] (if v.1 = 9 then [] else v :: []) m' Q) = Q1
    show zW E (d - 1) 49 0 [(2, 1), (0, a0)] [] m0 Q1
    refine zw_3 zr_49_0 rfl ?_
    refine zw_40_0 zr_49_1 ?_ ?_
    · intro h9
      refine zw_push zr_49_16 ?_
      refine zw_R zr_49_17 (by decide) zm_49 (v := (0, 0)) (zRetB (by omega)) ?_
      rw [← hQ1]
      show zW E (d) 125 13 [(2, 0), (0, a0)] [(0, 0)] m0 Q
      refine zw_40_4 zr_125_13 ?_ ?_
      · intro h10; omega
      · intro h11
        refine zw_push zr_125_16 ?_
        refine zw_R zr_125_18 (by decide) zm_125 (v := (0, (-2))) rfl ?_
        rw [← hQ]; exact ⟨_, rfl, by omega, by omega, hI0, hF0, by first | exact ⟨_, zWn_i, Or.inl ⟨rfl, by omega⟩⟩ | (obtain ⟨f, z1, z2⟩ := zz; first | exact ⟨f, z1, Or.inr ⟨by omega, _, _, z2, Or.inl ⟨by omega, rfl⟩⟩⟩ | exact ⟨f, z1, Or.inr ⟨by omega, _, _, z2, Or.inr ⟨by omega, qzz⟩⟩⟩)⟩
    · intro h13
      refine zw_3 zr_49_4 rfl ?_
      refine zw_7 zr_49_5 rfl ?_
      refine zw_46i zr_49_6 hg0 rfl rfl rfl ?_
      refine zw_41_3 zr_49_9 ?_ ?_
      · intro h14
        refine zw_push zr_49_16 ?_
        refine zw_R zr_49_17 (by decide) zm_49 (v := (0, 0)) (zRetB (by omega)) ?_
        rw [← hQ1]
        show zW E (d) 125 13 [(2, 0), (0, a0)] [(0, 0)] m0 Q
        refine zw_40_4 zr_125_13 ?_ ?_
        · intro h15; omega
        · intro h16
          refine zw_push zr_125_16 ?_
          refine zw_R zr_125_18 (by decide) zm_125 (v := (0, (-2))) rfl ?_
          rw [← hQ]; exact ⟨_, rfl, by omega, by omega, hI0, hF0, by first | exact ⟨_, zWn_i, Or.inl ⟨rfl, by omega⟩⟩ | (obtain ⟨f, z1, z2⟩ := zz; first | exact ⟨f, z1, Or.inr ⟨by omega, _, _, z2, Or.inl ⟨by omega, rfl⟩⟩⟩ | exact ⟨f, z1, Or.inr ⟨by omega, _, _, z2, Or.inr ⟨by omega, qzz⟩⟩⟩)⟩
      · intro h18
        refine zw_push zr_49_12 ?_
        refine zw_42 zr_49_13 ?_
        refine zw_R zr_49_17 (by decide) zm_49 (v := (0, 1)) (zRetB (by omega)) ?_
        rw [← hQ1]
        show zW E (d) 125 13 [(2, 0), (0, a0)] [(0, 1)] m0 Q
        refine zw_40_4 zr_125_13 ?_ ?_
        · intro h19
          refine zw_7 zr_125_19 rfl ?_
          refine zw_46r (s := 63) zr_125_20 rfl rfl rfl rfl ?_
          refine zw_C zr_125_23 (Or.inl rfl) zm_97 rfl rfl ⟨Nat.le_of_ble_eq_true rfl, Nat.le_of_ble_eq_true rfl, Nat.le_of_ble_eq_true rfl, rfl, by decide⟩ (by omega) (th_97 (d := d - 1) (by omega) hI0  (g0 := g0) (g1 := g1) (g2 := g2)  (F6 := F6) (F7 := F7) (F8 := F8) (F64 := F64) (F65 := m0 65) (F66 := m0 66) (F67 := m0 67) (F68 := m0 68) hg0 hg1 hg2 hG6 hG7 hG8 hG64 rfl rfl rfl rfl  ) ?_
          rintro _ m20 ⟨rfl, hIm20, gm20, po0_m20⟩
          have hFm20 : zFr W_125 m0 m20 := hF0.trans gm20 rfl
          have km20_1_0 : m20 1 0 = g0 := (gm20 1 0 rfl).trans hg0
          have km20_1_1 : m20 1 1 = g1 := (gm20 1 1 rfl).trans hg1
          have km20_1_2 : m20 1 2 = g2 := (gm20 1 2 rfl).trans hg2
          have fm20_6 : m20 6 = F6 := (funext fun k => gm20 6 k rfl).trans hG6
          have fm20_7 : m20 7 = F7 := (funext fun k => gm20 7 k rfl).trans hG7
          have fm20_8 : m20 8 = F8 := (funext fun k => gm20 8 k rfl).trans hG8
          obtain ⟨f21, fm20_64⟩ : ∃ f, m20 64 = f := ⟨_, rfl⟩
          try rw [fm20_64] at po0_m20
          obtain ⟨f22, ef22⟩ : ∃ v, m20 63 0 = v := ⟨_, rfl⟩
          have bf22 := ib_63_0 hIm20
          rw [ef22] at bf22
          rw [ef22] at po0_m20
          show zW E (d) 125 26 [(2, 0), (0, a0)] [] m20 Q
          refine zw_3 zr_125_26 rfl ?_
          refine zw_push zr_125_27 ?_
          refine zw_41_4 zr_125_28 ?_ ?_
          · intro h23
            refine zw_7 zr_125_41 rfl ?_
            refine zw_46r (s := 63) zr_125_42 rfl rfl rfl rfl ?_
            refine zw_46r (s := 64) zr_125_45 rfl rfl rfl rfl ?_
            refine zw_3 zr_125_48 rfl ?_
            refine zw_48 (c := 64) (len := 10) zr_125_49 rfl rfl (by omega) (by omega) ?_
            intro x24 ex24
            have bx24 := hIm20.ra (c := 64) (len := 10) (k := (a0).toNat) rfl (by omega)
            rw [← ex24] at bx24
            have qx24 : x24 = f21 (a0).toNat := by rw [← fm20_64]; exact ex24
            clear ex24
            refine zw_R zr_125_50 (by decide) zm_125 (v := (0, x24)) rfl ?_
            rw [← hQ]; exact ⟨_, rfl, by omega, by omega, hIm20, hFm20, by first | exact ⟨_, zWn_i, Or.inl ⟨rfl, by omega⟩⟩ | (obtain ⟨f, z1, z2⟩ := po0_m20; first | exact ⟨f, z1, Or.inr ⟨by omega, _, _, z2, Or.inl ⟨by omega, rfl⟩⟩⟩ | exact ⟨f, z1, Or.inr ⟨by omega, _, _, z2, Or.inr ⟨by omega, qx24⟩⟩⟩)⟩
          · intro h26; omega
        · intro h27; omega

abbrev W_199 : List (Nat × Nat) := [(83, 1000), (84, 1000)]
set_option maxHeartbeats 8000000 in
theorem th_199 {E : zE} {d : Nat} {m0 : zM} {a0 : Int} {g0 : Int} {g1 : Int} {F70 : Nat → Int} {F83 : Nat → Int} {F84 : Nat → Int} (hd : 3 ≤ d) (hI0 : zInv m0) (hg0 : m0 70 822 = g0) (hg1 : m0 70 823 = g1) (hG70 : m0 70 = F70) (hG83 : m0 83 = F83) (hG84 : m0 84 = F84) (ha0 : (-2147483648) ≤ a0 ∧ a0 ≤ 2147483647) : zC E d 199 [(2, 69), (0, a0)] m0 (fun v m' => ∃ r : Int, v = (0, r) ∧ (-2) ≤ r ∧ r ≤ 9999 ∧ zInv m' ∧ zFr W_199 m0 m' ∧ (∃ f, zWu f F70 g1 ∧ zWa f g0 a0 r)) := by
  have hF0 : zFr W_199 m0 m0 := zFr.rfl
  have bg0 : 0 ≤ m0 70 822 ∧ m0 70 822 ≤ 10 := ib_70_players hI0 (by omega)
  rw [hg0] at bg0
  have bg1 : 0 ≤ m0 70 823 ∧ m0 70 823 ≤ 60 := ib_70_meetings hI0 (by omega)
  rw [hg1] at bg1
  generalize hQ : (fun (v : zV) (m' : zM) => ∃ r : Int, v = (0, r) ∧ (-2) ≤ r ∧ r ≤ 9999 ∧ zInv m' ∧ zFr W_199 m0 m' ∧ (∃ f, zWu f F70 g1 ∧ zWa f g0 a0 r)) = Q
  show zW E d 199 0 [(2, 69), (0, a0), (9, 0), (9, 0), (9, 0), (9, 0), (9, 0), (9, 0), (9, 0), (9, 0)] [] m0 Q
  refine zw_3 zr_199_0 rfl ?_
  refine zw_push zr_199_1 ?_
  refine zw_41_1 zr_199_2 ?_ ?_
  · intro h1
    refine zw_push zr_199_16 ?_
    refine zw_9 (L' := [(2, 69), (0, a0), (0, 0), (9, 0), (9, 0), (9, 0), (9, 0), (9, 0), (9, 0), (9, 0)]) zr_199_17 (Nat.le_of_ble_eq_true rfl) rfl ?_
    have lp18_6 : ∀ (nlp18_6 : Nat) (i2 : Int) (f4 : Nat → Int) (f5 : Nat → Int) (m3 : zM), zInv m3 → zFr W_199 m0 m3 → m3 70 822 = g0 → m3 70 823 = g1 → m3 70 = F70 → m3 83 = f4 → m3 84 = f5 → 0 ≤ i2 → i2 ≤ 100 → (zFil f4 i2 0) → (100 - i2).toNat < nlp18_6 → zW E (d) 199 18 [(2, 69), (0, a0), (0, i2), (9, 0), (9, 0), (9, 0), (9, 0), (9, 0), (9, 0), (9, 0)] [] m3 Q := by
      intro nlp18_6
      induction nlp18_6 with
      | zero =>
        intros
        exact absurd (by assumption : _ < 0) (Nat.not_lt_zero _)
      | succ nlp18_6 ihlp18_6 =>
        intro i2 f4 f5 m3 hIm3 hFm3 km3_70_822 km3_70_823 fm3_70 fm3_83 fm3_84 li2 ui2 hv0lp18_6 hmlp18_6
        refine zw_3 zr_199_18 rfl ?_
        refine zw_push zr_199_19 ?_
        refine zw_41_3 zr_199_21 ?_ ?_
        · intro h8
          refine zw_push zr_199_37 ?_
          refine zw_9 (L' := [(2, 69), (0, a0), (0, 0), (9, 0), (9, 0), (9, 0), (9, 0), (9, 0), (9, 0), (9, 0)]) zr_199_38 (Nat.le_of_ble_eq_true rfl) rfl ?_
          have lp39_13 : ∀ (nlp39_13 : Nat) (i9 : Int) (f11 : Nat → Int) (f12 : Nat → Int) (m10 : zM), zInv m10 → zFr W_199 m0 m10 → m10 70 822 = g0 → m10 70 823 = g1 → m10 70 = F70 → m10 83 = f11 → m10 84 = f12 → 0 ≤ i9 → i9 ≤ 60 → (zWu f11 F70 i9) → (i9 ≤ g1) → (60 - i9).toNat < nlp39_13 → zW E (d) 199 39 [(2, 69), (0, a0), (0, i9), (9, 0), (9, 0), (9, 0), (9, 0), (9, 0), (9, 0), (9, 0)] [] m10 Q := by
            intro nlp39_13
            induction nlp39_13 with
            | zero =>
              intros
              exact absurd (by assumption : _ < 0) (Nat.not_lt_zero _)
            | succ nlp39_13 ihlp39_13 =>
              intro i9 f11 f12 m10 hIm10 hFm10 km10_70_822 km10_70_823 fm10_70 fm10_83 fm10_84 li9 ui9 hv0lp39_13 hv1lp39_13 hmlp39_13
              have z15 : F70 ((90 + (6 * i9)) + 1).toNat = F70 (91 + 6 * (i9).toNat) := congrArg F70 (by omega)
              have z16 : F70 ((90 + (6 * i9)) + 2).toNat = F70 (92 + 6 * (i9).toNat) := congrArg F70 (by omega)
              have z17 : F70 ((90 + (6 * i9)) + 3).toNat = F70 (93 + 6 * (i9).toNat) := congrArg F70 (by omega)
              have z18 : F70 ((90 + (6 * i9)) + 4).toNat = F70 (94 + 6 * (i9).toNat) := congrArg F70 (by omega)
              refine zw_3 zr_199_39 rfl ?_
              refine zw_7 zr_199_40 rfl ?_
              refine zw_C zr_199_41 (Or.inl rfl) zm_142 rfl rfl ⟨Nat.le_of_ble_eq_true rfl, Nat.le_of_ble_eq_true rfl, Nat.le_of_ble_eq_true rfl, rfl, by decide⟩ (by omega) (P := (fun v m' => zW E (d) 199 44 [(2, 69), (0, a0), (0, i9), (9, 0), (9, 0), (9, 0), (9, 0), (9, 0), (9, 0), (9, 0)] (if v.1 = 9 then [(0, i9)] else v :: [(0, i9)]) m' Q)) ?_ (fun _ _ h => h)
              generalize hQ1 : (fun v m' => zW E (d) 199 44 [(2, 69), (0, a0), (0, i9), (9, 0), (9, 0), (9, 0), (9, 0), (9, 0), (9, 0), (9, 0)] (if v.1 = 9 then [(0, i9)] else v :: [(0, i9)]) m' Q) = Q1
              show zW E (d - 1) 142 0 [(2, 69)] [] m10 Q1
              refine zw_7 zr_142_0 rfl ?_
              refine zw_46r (s := 70) zr_142_1 rfl rfl rfl rfl ?_
              refine zw_push zr_142_4 ?_
              refine zw_48k (c := 70) (len := 826) zr_142_7 rfl rfl (by omega) (by omega) (show (823 : Int).toNat = 823 by omega) km10_70_823 ?_
              refine zw_R zr_142_8 (by decide) zm_142 (v := (0, g1)) rfl ?_
              rw [← hQ1]
              show zW E (d) 199 44 [(2, 69), (0, a0), (0, i9), (9, 0), (9, 0), (9, 0), (9, 0), (9, 0), (9, 0), (9, 0)] [(0, g1), (0, i9)] m10 Q
              refine zw_41_3 zr_199_44 ?_ ?_
              · intro h19
                have hU : zWu f11 F70 g1 := by have z := hv0lp39_13; rw [show i9 = g1 by omega] at z; exact z
                refine zw_push zr_199_127 ?_
                refine zw_9 (L' := [(2, 69), (0, a0), (0, 1), (9, 0), (9, 0), (9, 0), (9, 0), (9, 0), (9, 0), (9, 0)]) zr_199_128 (Nat.le_of_ble_eq_true rfl) rfl ?_
                refine zw_push zr_199_129 ?_
                refine zw_9 (L' := [(2, 69), (0, a0), (0, 1), (0, 0), (9, 0), (9, 0), (9, 0), (9, 0), (9, 0), (9, 0)]) zr_199_130 (Nat.le_of_ble_eq_true rfl) rfl ?_
                have lp131_25 : ∀ (nlp131_25 : Nat) (i21 i22 : Int) (f24 : Nat → Int) (m23 : zM), zInv m23 → zFr W_199 m0 m23 → m23 70 822 = g0 → m23 70 823 = g1 → m23 70 = F70 → m23 83 = f11 → m23 84 = f24 → 1 ≤ i21 → i21 ≤ 59049 → 0 ≤ i22 → i22 ≤ 10 → (i21 = p3 (i22).toNat) → (i22 ≤ g0) → (10 - i22).toNat < nlp131_25 → zW E (d) 199 131 [(2, 69), (0, a0), (0, i21), (0, i22), (9, 0), (9, 0), (9, 0), (9, 0), (9, 0), (9, 0)] [] m23 Q := by
                  intro nlp131_25
                  induction nlp131_25 with
                  | zero =>
                    intros
                    exact absurd (by assumption : _ < 0) (Nat.not_lt_zero _)
                  | succ nlp131_25 ihlp131_25 =>
                    intro i21 i22 f24 m23 hIm23 hFm23 km23_70_822 km23_70_823 fm23_70 fm23_83 fm23_84 li21 ui21 li22 ui22 hv0lp131_25 hv1lp131_25 hmlp131_25
                    refine zw_3 zr_199_131 rfl ?_
                    refine zw_7 zr_199_132 rfl ?_
                    refine zw_C zr_199_133 (Or.inl rfl) zm_141 rfl rfl ⟨Nat.le_of_ble_eq_true rfl, Nat.le_of_ble_eq_true rfl, Nat.le_of_ble_eq_true rfl, rfl, by decide⟩ (by omega) (P := (fun v m' => zW E (d) 199 136 [(2, 69), (0, a0), (0, i21), (0, i22), (9, 0), (9, 0), (9, 0), (9, 0), (9, 0), (9, 0)] (if v.1 = 9 then [(0, i22)] else v :: [(0, i22)]) m' Q)) ?_ (fun _ _ h => h)
                    generalize hQ1 : (fun v m' => zW E (d) 199 136 [(2, 69), (0, a0), (0, i21), (0, i22), (9, 0), (9, 0), (9, 0), (9, 0), (9, 0), (9, 0)] (if v.1 = 9 then [(0, i22)] else v :: [(0, i22)]) m' Q) = Q1
                    show zW E (d - 1) 141 0 [(2, 69)] [] m23 Q1
                    refine zw_7 zr_141_0 rfl ?_
                    refine zw_46r (s := 70) zr_141_1 rfl rfl rfl rfl ?_
                    refine zw_push zr_141_4 ?_
                    refine zw_48k (c := 70) (len := 826) zr_141_7 rfl rfl (by omega) (by omega) (show (822 : Int).toNat = 822 by omega) km23_70_822 ?_
                    refine zw_R zr_141_8 (by decide) zm_141 (v := (0, g0)) rfl ?_
                    rw [← hQ1]
                    show zW E (d) 199 136 [(2, 69), (0, a0), (0, i21), (0, i22), (9, 0), (9, 0), (9, 0), (9, 0), (9, 0), (9, 0)] [(0, g0), (0, i22)] m23 Q
                    refine zw_41_3 zr_199_136 ?_ ?_
                    · intro h27
                      have hR : i21 = p3 g0.toNat := by have z := hv0lp131_25; rw [show (i22).toNat = g0.toNat by omega] at z; exact z
                      refine zw_push zr_199_149 ?_
                      refine zw_9 (L' := [(2, 69), (0, a0), (0, i21), (0, 0), (9, 0), (9, 0), (9, 0), (9, 0), (9, 0), (9, 0)]) zr_199_150 (Nat.le_of_ble_eq_true rfl) rfl ?_
                      refine zw_push zr_199_151 ?_
                      refine zw_10 (L' := [(2, 69), (0, a0), (0, i21), (0, 0), (0, (-1)), (9, 0), (9, 0), (9, 0), (9, 0), (9, 0)]) zr_199_152 (Nat.le_of_ble_eq_true rfl) rfl ?_
                      refine zw_push zr_199_154 ?_
                      refine zw_10 (L' := [(2, 69), (0, a0), (0, i21), (0, 0), (0, (-1)), (0, 0), (9, 0), (9, 0), (9, 0), (9, 0)]) zr_199_155 (Nat.le_of_ble_eq_true rfl) rfl ?_
                      have lp157_34 : ∀ (nlp157_34 : Nat) (i29 i30 i31 : Int) (f33 : Nat → Int) (m32 : zM), zInv m32 → zFr W_199 m0 m32 → m32 70 822 = g0 → m32 70 823 = g1 → m32 70 = F70 → m32 83 = f11 → m32 84 = f33 → 0 ≤ i29 → i29 ≤ 59049 → (-1) ≤ i30 → i30 ≤ 9999 → 0 ≤ i31 → i31 ≤ 59049 → (zWw f11 g0 i31 i29 i30) → (i31 ≤ i21) → (59049 - i31).toNat < nlp157_34 → zW E (d) 199 157 [(2, 69), (0, a0), (0, i21), (0, i29), (0, i30), (0, i31), (9, 0), (9, 0), (9, 0), (9, 0)] [] m32 Q := by
                        intro nlp157_34
                        induction nlp157_34 with
                        | zero =>
                          intros
                          exact absurd (by assumption : _ < 0) (Nat.not_lt_zero _)
                        | succ nlp157_34 ihlp157_34 =>
                          intro i29 i30 i31 f33 m32 hIm32 hFm32 km32_70_822 km32_70_823 fm32_70 fm32_83 fm32_84 li29 ui29 li30 ui30 li31 ui31 hv0lp157_34 hv1lp157_34 hmlp157_34
                          refine zw_4 zr_199_157 rfl ?_
                          refine zw_3 zr_199_159 rfl ?_
                          refine zw_41_3 zr_199_160 ?_ ?_
                          · intro h36
                            refine zw_3 zr_199_321 rfl ?_
                            refine zw_push zr_199_322 ?_
                            refine zw_41_4 zr_199_323 ?_ ?_
                            · intro h37; omega
                            · intro h38
                              refine zw_4 zr_199_326 rfl ?_
                              refine zw_R zr_199_328 (by decide) zm_199 (v := (0, i30)) rfl ?_
                              rw [← hQ]; exact ⟨_, rfl, by omega, by omega, hIm32, hFm32, by first | exact ⟨_, zWu_i, Or.inl ⟨rfl, by omega⟩⟩ | exact ⟨_, hU, zWa_m hv0lp157_34 (by omega) (by omega) (by omega) rfl⟩ | exact ⟨_, hU, zWe_e zz (by omega) (by omega) rfl⟩⟩
                          · intro h40
                            refine zw_4 zr_199_163 rfl ?_
                            refine zw_10 (L' := [(2, 69), (0, a0), (0, i21), (0, i29), (0, i30), (0, i31), (0, i31), (9, 0), (9, 0), (9, 0)]) zr_199_165 (Nat.le_of_ble_eq_true rfl) rfl ?_
                            refine zw_7 zr_199_167 rfl ?_
                            refine zw_C zr_199_168 (Or.inl rfl) zm_141 rfl rfl ⟨Nat.le_of_ble_eq_true rfl, Nat.le_of_ble_eq_true rfl, Nat.le_of_ble_eq_true rfl, rfl, by decide⟩ (by omega) (P := (fun v m' => zW E (d) 199 171 [(2, 69), (0, a0), (0, i21), (0, i29), (0, i30), (0, i31), (0, i31), (9, 0), (9, 0), (9, 0)] (if v.1 = 9 then [] else v :: []) m' Q)) ?_ (fun _ _ h => h)
                            generalize hQ1 : (fun v m' => zW E (d) 199 171 [(2, 69), (0, a0), (0, i21), (0, i29), (0, i30), (0, i31), (0, i31), (9, 0), (9, 0), (9, 0)] (if v.1 = 9 then [] else v :: []) m' Q) = Q1
                            show zW E (d - 1) 141 0 [(2, 69)] [] m32 Q1
                            refine zw_7 zr_141_0 rfl ?_
                            refine zw_46r (s := 70) zr_141_1 rfl rfl rfl rfl ?_
                            refine zw_push zr_141_4 ?_
                            refine zw_48k (c := 70) (len := 826) zr_141_7 rfl rfl (by omega) (by omega) (show (822 : Int).toNat = 822 by omega) km32_70_822 ?_
                            refine zw_R zr_141_8 (by decide) zm_141 (v := (0, g0)) rfl ?_
                            rw [← hQ1]
                            show zW E (d) 199 171 [(2, 69), (0, a0), (0, i21), (0, i29), (0, i30), (0, i31), (0, i31), (9, 0), (9, 0), (9, 0)] [(0, g0)] m32 Q
                            refine zw_push zr_199_171 ?_
                            refine zw_17 zr_199_172 (by omega) ?_
                            refine zw_10 (L' := [(2, 69), (0, a0), (0, i21), (0, i29), (0, i30), (0, i31), (0, i31), (0, (g0 - 1)), (9, 0), (9, 0)]) zr_199_173 (Nat.le_of_ble_eq_true rfl) rfl ?_
                            have lp175_45 : ∀ (nlp175_45 : Nat) (i41 i42 : Int) (f44 : Nat → Int) (m43 : zM), zInv m43 → zFr W_199 m0 m43 → m43 70 822 = g0 → m43 70 823 = g1 → m43 70 = F70 → m43 83 = f11 → m43 84 = f44 → 0 ≤ i41 → i41 ≤ 59049 → (-1) ≤ i42 → i42 ≤ 9 → (zDg i31 g0 i41 i42 f44) → (i42 < g0) → (i42 - (-1)).toNat < nlp175_45 → zW E (d) 199 175 [(2, 69), (0, a0), (0, i21), (0, i29), (0, i30), (0, i31), (0, i41), (0, i42), (9, 0), (9, 0)] [] m43 Q := by
                              intro nlp175_45
                              induction nlp175_45 with
                              | zero =>
                                intros
                                exact absurd (by assumption : _ < 0) (Nat.not_lt_zero _)
                              | succ nlp175_45 ihlp175_45 =>
                                intro i41 i42 f44 m43 hIm43 hFm43 km43_70_822 km43_70_823 fm43_70 fm43_83 fm43_84 li41 ui41 li42 ui42 hv0lp175_45 hv1lp175_45 hmlp175_45
                                refine zw_4 zr_199_175 rfl ?_
                                refine zw_40_0 zr_199_177 ?_ ?_
                                · intro h47
                                  have hV := zDg_e hv0lp175_45 (by omega) (by omega)
                                  refine zw_push zr_199_203 ?_
                                  refine zw_10 (L' := [(2, 69), (0, a0), (0, i21), (0, i29), (0, i30), (0, i31), (0, i41), (0, 0), (9, 0), (9, 0)]) zr_199_204 (Nat.le_of_ble_eq_true rfl) rfl ?_
                                  refine zw_push zr_199_206 ?_
                                  refine zw_10 (L' := [(2, 69), (0, a0), (0, i21), (0, i29), (0, i30), (0, i31), (0, i41), (0, 0), (0, 0), (9, 0)]) zr_199_207 (Nat.le_of_ble_eq_true rfl) rfl ?_
                                  have lp209_51 : ∀ (nlp209_51 : Nat) (i49 i50 : Int), 0 ≤ i49 → i49 ≤ 9999 → 0 ≤ i50 → i50 ≤ 10 → (i49 = wr1 f11 f44 g0.toNat (i50).toNat) → (i49 ≤ 600 * i50 ∧ i50 ≤ g0) → (10 - i50).toNat < nlp209_51 → zW E (d) 199 209 [(2, 69), (0, a0), (0, i21), (0, i29), (0, i30), (0, i31), (0, i41), (0, i49), (0, i50), (9, 0)] [] m43 Q := by
                                    intro nlp209_51
                                    induction nlp209_51 with
                                    | zero =>
                                      intros
                                      exact absurd (by assumption : _ < 0) (Nat.not_lt_zero _)
                                    | succ nlp209_51 ihlp209_51 =>
                                      intro i49 i50 li49 ui49 li50 ui50 hv0lp209_51 hv1lp209_51 hmlp209_51
                                      refine zw_4 zr_199_209 rfl ?_
                                      refine zw_7 zr_199_211 rfl ?_
                                      refine zw_C zr_199_212 (Or.inl rfl) zm_141 rfl rfl ⟨Nat.le_of_ble_eq_true rfl, Nat.le_of_ble_eq_true rfl, Nat.le_of_ble_eq_true rfl, rfl, by decide⟩ (by omega) (P := (fun v m' => zW E (d) 199 215 [(2, 69), (0, a0), (0, i21), (0, i29), (0, i30), (0, i31), (0, i41), (0, i49), (0, i50), (9, 0)] (if v.1 = 9 then [(0, i50)] else v :: [(0, i50)]) m' Q)) ?_ (fun _ _ h => h)
                                      generalize hQ1 : (fun v m' => zW E (d) 199 215 [(2, 69), (0, a0), (0, i21), (0, i29), (0, i30), (0, i31), (0, i41), (0, i49), (0, i50), (9, 0)] (if v.1 = 9 then [(0, i50)] else v :: [(0, i50)]) m' Q) = Q1
                                      show zW E (d - 1) 141 0 [(2, 69)] [] m43 Q1
                                      refine zw_7 zr_141_0 rfl ?_
                                      refine zw_46r (s := 70) zr_141_1 rfl rfl rfl rfl ?_
                                      refine zw_push zr_141_4 ?_
                                      refine zw_48k (c := 70) (len := 826) zr_141_7 rfl rfl (by omega) (by omega) (show (822 : Int).toNat = 822 by omega) km43_70_822 ?_
                                      refine zw_R zr_141_8 (by decide) zm_141 (v := (0, g0)) rfl ?_
                                      rw [← hQ1]
                                      show zW E (d) 199 215 [(2, 69), (0, a0), (0, i21), (0, i29), (0, i30), (0, i31), (0, i41), (0, i49), (0, i50), (9, 0)] [(0, g0), (0, i50)] m43 Q
                                      refine zw_41_3 zr_199_215 ?_ ?_
                                      · intro h53
                                        have hS : i49 = wS f11 f44 g0.toNat := by have z := hv0lp209_51; rw [show (i50).toNat = g0.toNat by omega] at z; exact z
                                        refine zw_4 zr_199_285 rfl ?_
                                        refine zw_4 zr_199_287 rfl ?_
                                        refine zw_41_5 zr_199_289 ?_ ?_
                                        · intro h55
                                          refine zw_3 zr_199_297 rfl ?_
                                          refine zw_9 (L' := [(2, 69), (0, a0), (0, i21), (0, i29), (0, i30), (0, i31), (0, i41), (0, i49), (0, i50), (9, 0)]) zr_199_298 (Nat.le_of_ble_eq_true rfl) rfl ?_
                                          refine zw_4 zr_199_299 rfl ?_
                                          refine zw_4 zr_199_301 rfl ?_
                                          refine zw_41_5 zr_199_303 ?_ ?_
                                          · intro h56
                                            refine zw_4 zr_199_311 rfl ?_
                                            refine zw_10 (L' := [(2, 69), (0, a0), (0, i21), (0, i29), (0, i30), (0, i31), (0, i41), (0, i49), (0, i50), (9, 0)]) zr_199_313 (Nat.le_of_ble_eq_true rfl) rfl ?_
                                            refine zw_15 (c := 1) (L' := [(2, 69), (0, a0), (0, i21), (0, i29), (0, i30), (0, (i31 + 1)), (0, i41), (0, i49), (0, i50), (9, 0)]) zr_199_315 rfl (by decide) (by omega) rfl ?_
                                            refine zw_42 zr_199_318 ?_
                                            exact zw_less (L := [(2, 69), (0, a0), (0, i21), (0, i29), (0, i30), (0, (i31 + 1)), (9, 0), (9, 0), (9, 0), (9, 0)]) ⟨Or.inr rfl, Or.inr rfl, Or.inr rfl, Or.inr rfl, Or.inr rfl, Or.inr rfl, Or.inl rfl, Or.inl rfl, Or.inl rfl, Or.inl rfl, trivial⟩ (ihlp157_34 (i29) (i30) ((i31 + 1)) (f44) m43 hIm43 hFm43  km43_70_822 km43_70_823 fm43_70 fm43_83 fm43_84 (by omega) (by omega) (by omega) (by omega) (by omega) (by omega) (zWw_s hv0lp157_34 hV hS (by omega) (by omega)) (by omega) (by omega))
                                          · intro h58
                                            refine zw_4 zr_199_306 rfl ?_
                                            refine zw_42 zr_199_308 ?_
                                            refine zw_10 (L' := [(2, 69), (0, a0), (0, i21), (0, i29), (0, i49), (0, i31), (0, i41), (0, i49), (0, i50), (9, 0)]) zr_199_313 (Nat.le_of_ble_eq_true rfl) rfl ?_
                                            refine zw_15 (c := 1) (L' := [(2, 69), (0, a0), (0, i21), (0, i29), (0, i49), (0, (i31 + 1)), (0, i41), (0, i49), (0, i50), (9, 0)]) zr_199_315 rfl (by decide) (by omega) rfl ?_
                                            refine zw_42 zr_199_318 ?_
                                            exact zw_less (L := [(2, 69), (0, a0), (0, i21), (0, i29), (0, i49), (0, (i31 + 1)), (9, 0), (9, 0), (9, 0), (9, 0)]) ⟨Or.inr rfl, Or.inr rfl, Or.inr rfl, Or.inr rfl, Or.inr rfl, Or.inr rfl, Or.inl rfl, Or.inl rfl, Or.inl rfl, Or.inl rfl, trivial⟩ (ihlp157_34 (i29) (i49) ((i31 + 1)) (f44) m43 hIm43 hFm43  km43_70_822 km43_70_823 fm43_70 fm43_83 fm43_84 (by omega) (by omega) (by omega) (by omega) (by omega) (by omega) (zWw_s hv0lp157_34 hV hS (by omega) (by omega)) (by omega) (by omega))
                                        · intro h60
                                          refine zw_4 zr_199_292 rfl ?_
                                          refine zw_42 zr_199_294 ?_
                                          refine zw_9 (L' := [(2, 69), (0, a0), (0, i21), (0, i31), (0, i30), (0, i31), (0, i41), (0, i49), (0, i50), (9, 0)]) zr_199_298 (Nat.le_of_ble_eq_true rfl) rfl ?_
                                          refine zw_4 zr_199_299 rfl ?_
                                          refine zw_4 zr_199_301 rfl ?_
                                          refine zw_41_5 zr_199_303 ?_ ?_
                                          · intro h61
                                            refine zw_4 zr_199_311 rfl ?_
                                            refine zw_10 (L' := [(2, 69), (0, a0), (0, i21), (0, i31), (0, i30), (0, i31), (0, i41), (0, i49), (0, i50), (9, 0)]) zr_199_313 (Nat.le_of_ble_eq_true rfl) rfl ?_
                                            refine zw_15 (c := 1) (L' := [(2, 69), (0, a0), (0, i21), (0, i31), (0, i30), (0, (i31 + 1)), (0, i41), (0, i49), (0, i50), (9, 0)]) zr_199_315 rfl (by decide) (by omega) rfl ?_
                                            refine zw_42 zr_199_318 ?_
                                            exact zw_less (L := [(2, 69), (0, a0), (0, i21), (0, i31), (0, i30), (0, (i31 + 1)), (9, 0), (9, 0), (9, 0), (9, 0)]) ⟨Or.inr rfl, Or.inr rfl, Or.inr rfl, Or.inr rfl, Or.inr rfl, Or.inr rfl, Or.inl rfl, Or.inl rfl, Or.inl rfl, Or.inl rfl, trivial⟩ (ihlp157_34 (i31) (i30) ((i31 + 1)) (f44) m43 hIm43 hFm43  km43_70_822 km43_70_823 fm43_70 fm43_83 fm43_84 (by omega) (by omega) (by omega) (by omega) (by omega) (by omega) (zWw_s hv0lp157_34 hV hS (by omega) (by omega)) (by omega) (by omega))
                                          · intro h63
                                            refine zw_4 zr_199_306 rfl ?_
                                            refine zw_42 zr_199_308 ?_
                                            refine zw_10 (L' := [(2, 69), (0, a0), (0, i21), (0, i31), (0, i49), (0, i31), (0, i41), (0, i49), (0, i50), (9, 0)]) zr_199_313 (Nat.le_of_ble_eq_true rfl) rfl ?_
                                            refine zw_15 (c := 1) (L' := [(2, 69), (0, a0), (0, i21), (0, i31), (0, i49), (0, (i31 + 1)), (0, i41), (0, i49), (0, i50), (9, 0)]) zr_199_315 rfl (by decide) (by omega) rfl ?_
                                            refine zw_42 zr_199_318 ?_
                                            exact zw_less (L := [(2, 69), (0, a0), (0, i21), (0, i31), (0, i49), (0, (i31 + 1)), (9, 0), (9, 0), (9, 0), (9, 0)]) ⟨Or.inr rfl, Or.inr rfl, Or.inr rfl, Or.inr rfl, Or.inr rfl, Or.inr rfl, Or.inl rfl, Or.inl rfl, Or.inl rfl, Or.inl rfl, trivial⟩ (ihlp157_34 (i31) (i49) ((i31 + 1)) (f44) m43 hIm43 hFm43  km43_70_822 km43_70_823 fm43_70 fm43_83 fm43_84 (by omega) (by omega) (by omega) (by omega) (by omega) (by omega) (zWw_s hv0lp157_34 hV hS (by omega) (by omega)) (by omega) (by omega))
                                      · intro h65
                                        refine zw_push zr_199_218 ?_
                                        refine zw_10 (L' := [(2, 69), (0, a0), (0, i21), (0, i29), (0, i30), (0, i31), (0, i41), (0, i49), (0, i50), (0, 0)]) zr_199_219 (Nat.le_of_ble_eq_true rfl) rfl ?_
                                        have lp221_68 : ∀ (nlp221_68 : Nat) (i66 i67 : Int), 0 ≤ i66 → i66 ≤ 9999 → 0 ≤ i67 → i67 ≤ 10 → (i66 = wr1 f11 f44 g0.toNat (i50).toNat + wr2 f11 f44 (i50).toNat (i67).toNat) → (i66 ≤ 600 * i50 + 60 * i67 ∧ i67 ≤ g0) → (10 - i67).toNat < nlp221_68 → zW E (d) 199 221 [(2, 69), (0, a0), (0, i21), (0, i29), (0, i30), (0, i31), (0, i41), (0, i66), (0, i50), (0, i67)] [] m43 Q := by
                                          intro nlp221_68
                                          induction nlp221_68 with
                                          | zero =>
                                            intros
                                            exact absurd (by assumption : _ < 0) (Nat.not_lt_zero _)
                                          | succ nlp221_68 ihlp221_68 =>
                                            intro i66 i67 li66 ui66 li67 ui67 hv0lp221_68 hv1lp221_68 hmlp221_68
                                            refine zw_4 zr_199_221 rfl ?_
                                            refine zw_7 zr_199_223 rfl ?_
                                            refine zw_C zr_199_224 (Or.inl rfl) zm_141 rfl rfl ⟨Nat.le_of_ble_eq_true rfl, Nat.le_of_ble_eq_true rfl, Nat.le_of_ble_eq_true rfl, rfl, by decide⟩ (by omega) (P := (fun v m' => zW E (d) 199 227 [(2, 69), (0, a0), (0, i21), (0, i29), (0, i30), (0, i31), (0, i41), (0, i66), (0, i50), (0, i67)] (if v.1 = 9 then [(0, i67)] else v :: [(0, i67)]) m' Q)) ?_ (fun _ _ h => h)
                                            generalize hQ1 : (fun v m' => zW E (d) 199 227 [(2, 69), (0, a0), (0, i21), (0, i29), (0, i30), (0, i31), (0, i41), (0, i66), (0, i50), (0, i67)] (if v.1 = 9 then [(0, i67)] else v :: [(0, i67)]) m' Q) = Q1
                                            show zW E (d - 1) 141 0 [(2, 69)] [] m43 Q1
                                            refine zw_7 zr_141_0 rfl ?_
                                            refine zw_46r (s := 70) zr_141_1 rfl rfl rfl rfl ?_
                                            refine zw_push zr_141_4 ?_
                                            refine zw_48k (c := 70) (len := 826) zr_141_7 rfl rfl (by omega) (by omega) (show (822 : Int).toNat = 822 by omega) km43_70_822 ?_
                                            refine zw_R zr_141_8 (by decide) zm_141 (v := (0, g0)) rfl ?_
                                            rw [← hQ1]
                                            show zW E (d) 199 227 [(2, 69), (0, a0), (0, i21), (0, i29), (0, i30), (0, i31), (0, i41), (0, i66), (0, i50), (0, i67)] [(0, g0), (0, i67)] m43 Q
                                            refine zw_41_3 zr_199_227 ?_ ?_
                                            · intro h70
                                              have z71 := hv0lp221_68; rw [show (i67).toNat = g0.toNat by omega] at z71
                                              have z72 := wr1_s f11 f44 g0.toNat (i50) (by omega)
                                              refine zw_15 (c := 1) (L' := [(2, 69), (0, a0), (0, i21), (0, i29), (0, i30), (0, i31), (0, i41), (0, i66), (0, (i50 + 1)), (0, i67)]) zr_199_279 rfl (by decide) (by omega) rfl ?_
                                              refine zw_42 zr_199_282 ?_
                                              exact zw_less (L := [(2, 69), (0, a0), (0, i21), (0, i29), (0, i30), (0, i31), (0, i41), (0, i66), (0, (i50 + 1)), (9, 0)]) ⟨Or.inr rfl, Or.inr rfl, Or.inr rfl, Or.inr rfl, Or.inr rfl, Or.inr rfl, Or.inr rfl, Or.inr rfl, Or.inr rfl, Or.inl rfl, trivial⟩ (ihlp209_51 (i66) ((i50 + 1))  (by omega) (by omega) (by omega) (by omega) (by omega) (by omega) (by omega))
                                            · intro h73
                                              refine zw_4 zr_199_230 rfl ?_
                                              refine zw_7 zr_199_232 rfl ?_
                                              refine zw_46r (s := 84) zr_199_233 rfl rfl rfl rfl ?_
                                              refine zw_4 zr_199_236 rfl ?_
                                              refine zw_48 (c := 84) (len := 10) zr_199_238 rfl rfl (by omega) (by omega) ?_
                                              intro x74 ex74
                                              have bx74 := ib_84 hIm43 (k := (i50).toNat) (by omega)
                                              rw [← ex74] at bx74
                                              have qx74 : x74 = f44 (i50).toNat := by rw [← fm43_84]; exact ex74
                                              clear ex74
                                              have hx := qx74
                                              refine zw_push zr_199_239 ?_
                                              refine zw_16 zr_199_240 (by omega) ?_
                                              refine zw_push zr_199_241 ?_
                                              refine zw_20 zr_199_242 (by omega) (by omega) (by omega) (by omega) ?_
                                              refine zw_7 zr_199_243 rfl ?_
                                              refine zw_46r (s := 84) zr_199_244 rfl rfl rfl rfl ?_
                                              refine zw_4 zr_199_247 rfl ?_
                                              refine zw_48 (c := 84) (len := 10) zr_199_249 rfl rfl (by omega) (by omega) ?_
                                              intro x76 ex76
                                              have bx76 := ib_84 hIm43 (k := (i67).toNat) (by omega)
                                              rw [← ex76] at bx76
                                              have qx76 : x76 = f44 (i67).toNat := by rw [← fm43_84]; exact ex76
                                              clear ex76
                                              have z77 := wr2_s (f := f11) (p := i50) (n := i67) (by omega) hx qx76
                                              refine zw_41_4 zr_199_250 ?_ ?_
                                              · intro h78
                                                refine zw_push zr_199_269 ?_
                                                refine zw_16 zr_199_270 (by omega) ?_
                                                refine zw_10 (L' := [(2, 69), (0, a0), (0, i21), (0, i29), (0, i30), (0, i31), (0, i41), (0, (i66 + 0)), (0, i50), (0, i67)]) zr_199_271 (Nat.le_of_ble_eq_true rfl) rfl ?_
                                                refine zw_15 (c := 1) (L' := [(2, 69), (0, a0), (0, i21), (0, i29), (0, i30), (0, i31), (0, i41), (0, (i66 + 0)), (0, i50), (0, (i67 + 1))]) zr_199_273 rfl (by decide) (by omega) rfl ?_
                                                refine zw_42 zr_199_276 ?_
                                                exact zw_less (L := [(2, 69), (0, a0), (0, i21), (0, i29), (0, i30), (0, i31), (0, i41), (0, (i66 + 0)), (0, i50), (0, (i67 + 1))]) ⟨Or.inr rfl, Or.inr rfl, Or.inr rfl, Or.inr rfl, Or.inr rfl, Or.inr rfl, Or.inr rfl, Or.inr rfl, Or.inr rfl, Or.inr rfl, trivial⟩ (ihlp221_68 ((i66 + 0)) ((i67 + 1))  (by omega) (by omega) (by omega) (by omega) (by omega) (by omega) (by omega))
                                              · intro h79
                                                refine zw_7 zr_199_253 rfl ?_
                                                refine zw_46r (s := 83) zr_199_254 rfl rfl rfl rfl ?_
                                                refine zw_push zr_199_257 ?_
                                                refine zw_4 zr_199_259 rfl ?_
                                                refine zw_18 zr_199_261 (by omega) ?_
                                                refine zw_4 zr_199_262 rfl ?_
                                                refine zw_16 zr_199_264 (by omega) ?_
                                                refine zw_48 (c := 83) (len := 100) zr_199_265 rfl rfl (by omega) (by omega) ?_
                                                intro x80 ex80
                                                have bx80 := ib_83 hIm43 (k := (((10 * i50) + i67)).toNat) (by omega)
                                                rw [← ex80] at bx80
                                                have qx80 : x80 = f11 (((10 * i50) + i67)).toNat := by rw [← fm43_83]; exact ex80
                                                clear ex80
                                                refine zw_42 zr_199_266 ?_
                                                refine zw_16 zr_199_270 (by omega) ?_
                                                refine zw_10 (L' := [(2, 69), (0, a0), (0, i21), (0, i29), (0, i30), (0, i31), (0, i41), (0, (i66 + x80)), (0, i50), (0, i67)]) zr_199_271 (Nat.le_of_ble_eq_true rfl) rfl ?_
                                                refine zw_15 (c := 1) (L' := [(2, 69), (0, a0), (0, i21), (0, i29), (0, i30), (0, i31), (0, i41), (0, (i66 + x80)), (0, i50), (0, (i67 + 1))]) zr_199_273 rfl (by decide) (by omega) rfl ?_
                                                refine zw_42 zr_199_276 ?_
                                                exact zw_less (L := [(2, 69), (0, a0), (0, i21), (0, i29), (0, i30), (0, i31), (0, i41), (0, (i66 + x80)), (0, i50), (0, (i67 + 1))]) ⟨Or.inr rfl, Or.inr rfl, Or.inr rfl, Or.inr rfl, Or.inr rfl, Or.inr rfl, Or.inr rfl, Or.inr rfl, Or.inr rfl, Or.inr rfl, trivial⟩ (ihlp221_68 ((i66 + x80)) ((i67 + 1))  (by omega) (by omega) (by omega) (by omega) (by omega) (by omega) (by omega))
                                        exact lp221_68 _ (i49) (0)  (by omega) (by omega) (by omega) (by omega) (by have z : wr2 f11 f44 (i50).toNat (Int.toNat 0) = 0 := rfl; omega) (by omega) (Nat.lt_succ_self _)
                                  exact lp209_51 _ (0) (0)  (by omega) (by omega) (by omega) (by omega) (by rfl) (by omega) (Nat.lt_succ_self _)
                                · intro h83
                                  refine zw_7 zr_199_180 rfl ?_
                                  refine zw_46r (s := 84) zr_199_181 rfl rfl rfl rfl ?_
                                  refine zw_4 zr_199_184 rfl ?_
                                  refine zw_4 zr_199_186 rfl ?_
                                  refine zw_push zr_199_188 ?_
                                  refine zw_20 zr_199_189 (by omega) (by omega) (by omega) (by omega) ?_
                                  refine zw_49 (c := 84) (len := 10) zr_199_190 rfl rfl (by omega) (by omega) ?_
                                  intro m84 em84
                                  have hIm84 : zInv m84 := by rw [em84]; exact iu_84 hIm43 (by omega)
                                  have hFm84 : zFr W_199 m0 m84 := by rw [em84]; exact hFm43.any rfl
                                  have km84_70_822 : m84 70 822 = g0 := by rw [em84, zUp_ne (by omega)]; exact km43_70_822
                                  have km84_70_823 : m84 70 823 = g1 := by rw [em84, zUp_ne (by omega)]; exact km43_70_823
                                  have fm84_70 : m84 70 = F70 := by rw [em84, zUp_fn (by decide)]; exact fm43_70
                                  have fm84_83 : m84 83 = f11 := by rw [em84, zUp_fn (by decide)]; exact fm43_83
                                  have fm84_84 : m84 84 = zPt f44 ((i42).toNat) ((i41 % 3)) := by rw [em84]; exact (zUp_ff (m := m43)).trans (congrArg (fun q => zPt q ((i42).toNat) ((i41 % 3))) fm43_84)
                                  clear em84
                                  refine zw_4 zr_199_191 rfl ?_
                                  refine zw_push zr_199_193 ?_
                                  refine zw_19 zr_199_194 (by omega) (by omega) (by omega) (by omega) ?_
                                  refine zw_10 (L' := [(2, 69), (0, a0), (0, i21), (0, i29), (0, i30), (0, i31), (0, (i41 / 3)), (0, i42), (9, 0), (9, 0)]) zr_199_195 (Nat.le_of_ble_eq_true rfl) rfl ?_
                                  refine zw_15 (c := (-1)) (L' := [(2, 69), (0, a0), (0, i21), (0, i29), (0, i30), (0, i31), (0, (i41 / 3)), (0, (i42 + (-1))), (9, 0), (9, 0)]) zr_199_197 rfl (by decide) (by omega) rfl ?_
                                  refine zw_42 zr_199_200 ?_
                                  exact zw_less (L := [(2, 69), (0, a0), (0, i21), (0, i29), (0, i30), (0, i31), (0, (i41 / 3)), (0, (i42 + (-1))), (9, 0), (9, 0)]) ⟨Or.inr rfl, Or.inr rfl, Or.inr rfl, Or.inr rfl, Or.inr rfl, Or.inr rfl, Or.inr rfl, Or.inr rfl, Or.inl rfl, Or.inl rfl, trivial⟩ (ihlp175_45 ((i41 / 3)) ((i42 + (-1))) (zPt f44 ((i42).toNat) ((i41 % 3))) m84 hIm84 hFm84  km84_70_822 km84_70_823 fm84_70 fm84_83 fm84_84 (by omega) (by omega) (by omega) (by omega) (zDg_s hv0lp175_45 (by omega) (by omega)) (by omega) (by omega))
                            exact lp175_45 _ (i31) ((g0 - 1)) (f33) m32 hIm32 hFm32  km32_70_822 km32_70_823 fm32_70 fm32_83 fm32_84 (by omega) (by omega) (by omega) (by omega) (zDg_0 (by omega) (by omega)) (by omega) (Nat.lt_succ_self _)
                      exact lp157_34 _ (0) ((-1)) (0) (f24) m23 hIm23 hFm23  km23_70_822 km23_70_823 fm23_70 fm23_83 fm23_84 (by omega) (by omega) (by omega) (by omega) (by omega) (by omega) (zWw_0) (by omega) (Nat.lt_succ_self _)
                    · intro h88
                      have z89 := p3_s (n := i22) (P := g0) (by omega)
                      refine zw_3 zr_199_139 rfl ?_
                      refine zw_push zr_199_140 ?_
                      refine zw_18 zr_199_141 (by omega) ?_
                      refine zw_9 (L' := [(2, 69), (0, a0), (0, (i21 * 3)), (0, i22), (9, 0), (9, 0), (9, 0), (9, 0), (9, 0), (9, 0)]) zr_199_142 (Nat.le_of_ble_eq_true rfl) rfl ?_
                      refine zw_15 (c := 1) (L' := [(2, 69), (0, a0), (0, (i21 * 3)), (0, (i22 + 1)), (9, 0), (9, 0), (9, 0), (9, 0), (9, 0), (9, 0)]) zr_199_143 rfl (by decide) (by omega) rfl ?_
                      refine zw_42 zr_199_146 ?_
                      exact zw_less (L := [(2, 69), (0, a0), (0, (i21 * 3)), (0, (i22 + 1)), (9, 0), (9, 0), (9, 0), (9, 0), (9, 0), (9, 0)]) ⟨Or.inr rfl, Or.inr rfl, Or.inr rfl, Or.inr rfl, Or.inl rfl, Or.inl rfl, Or.inl rfl, Or.inl rfl, Or.inl rfl, Or.inl rfl, trivial⟩ (ihlp131_25 ((i21 * 3)) ((i22 + 1)) (f24) m23 hIm23 hFm23  km23_70_822 km23_70_823 fm23_70 fm23_83 fm23_84 (by omega) (by omega) (by omega) (by omega) (by omega) (by omega) (by omega))
                exact lp131_25 _ (1) (0) (f12) m10 hIm10 hFm10  km10_70_822 km10_70_823 fm10_70 fm10_83 fm10_84 (by omega) (by omega) (by omega) (by omega) (by rfl) (by omega) (Nat.lt_succ_self _)
              · intro h91
                refine zw_7 zr_199_47 rfl ?_
                refine zw_3 zr_199_48 rfl ?_
                refine zw_push zr_199_49 ?_
                refine zw_C zr_199_50 (Or.inl rfl) zm_144 rfl rfl ⟨Nat.le_of_ble_eq_true rfl, Nat.le_of_ble_eq_true rfl, Nat.le_of_ble_eq_true rfl, rfl, by decide⟩ (by omega) (P := (fun v m' => zW E (d) 199 53 [(2, 69), (0, a0), (0, i9), (9, 0), (9, 0), (9, 0), (9, 0), (9, 0), (9, 0), (9, 0)] (if v.1 = 9 then [] else v :: []) m' Q)) ?_ (fun _ _ h => h)
                generalize hQ1 : (fun v m' => zW E (d) 199 53 [(2, 69), (0, a0), (0, i9), (9, 0), (9, 0), (9, 0), (9, 0), (9, 0), (9, 0), (9, 0)] (if v.1 = 9 then [] else v :: []) m' Q) = Q1
                show zW E (d - 1) 144 0 [(2, 69), (0, i9), (0, 4)] [] m10 Q1
                refine zw_7 zr_144_0 rfl ?_
                refine zw_46r (s := 70) zr_144_1 rfl rfl rfl rfl ?_
                refine zw_push zr_144_4 ?_
                refine zw_push zr_144_6 ?_
                refine zw_3 zr_144_8 rfl ?_
                refine zw_18 zr_144_9 (by omega) ?_
                refine zw_16 zr_144_10 (by omega) ?_
                refine zw_3 zr_144_11 rfl ?_
                refine zw_16 zr_144_12 (by omega) ?_
                refine zw_48 (c := 70) (len := 826) zr_144_13 rfl rfl (by omega) (by omega) ?_
                intro x92 ex92
                have bx92 := ib_70_m4 hIm10 (k := (((90 + (6 * i9)) + 4)).toNat) (by omega)
                rw [← ex92] at bx92
                have qx92 : x92 = F70 (((90 + (6 * i9)) + 4)).toNat := by rw [← fm10_70]; exact ex92
                refine zw_R zr_144_14 (by decide) zm_144 (v := (0, x92)) rfl ?_
                rw [← hQ1]
                show zW E (d) 199 53 [(2, 69), (0, a0), (0, i9), (9, 0), (9, 0), (9, 0), (9, 0), (9, 0), (9, 0), (9, 0)] [(0, x92)] m10 Q
                refine zw_40_4 zr_199_53 ?_ ?_
                · intro h93
                  refine zw_15 (c := 1) (L' := [(2, 69), (0, a0), (0, (i9 + 1)), (9, 0), (9, 0), (9, 0), (9, 0), (9, 0), (9, 0), (9, 0)]) zr_199_121 rfl (by decide) (by omega) rfl ?_
                  refine zw_42 zr_199_124 ?_
                  exact zw_less (L := [(2, 69), (0, a0), (0, (i9 + 1)), (9, 0), (9, 0), (9, 0), (9, 0), (9, 0), (9, 0), (9, 0)]) ⟨Or.inr rfl, Or.inr rfl, Or.inr rfl, Or.inl rfl, Or.inl rfl, Or.inl rfl, Or.inl rfl, Or.inl rfl, Or.inl rfl, Or.inl rfl, trivial⟩ (ihlp39_13 ((i9 + 1)) (f11) (f12) m10 hIm10 hFm10  km10_70_822 km10_70_823 fm10_70 fm10_83 fm10_84 (by omega) (by omega) (by first | exact zWu_skip hv0lp39_13 (by omega) (by omega) | exact zWu_put hv0lp39_13 (by omega) (by omega) (by omega) (by omega) (by omega) hx) (by omega) (by omega))
                · intro h95
                  refine zw_7 zr_199_56 rfl ?_
                  refine zw_3 zr_199_57 rfl ?_
                  refine zw_push zr_199_58 ?_
                  refine zw_C zr_199_59 (Or.inl rfl) zm_144 rfl rfl ⟨Nat.le_of_ble_eq_true rfl, Nat.le_of_ble_eq_true rfl, Nat.le_of_ble_eq_true rfl, rfl, by decide⟩ (by omega) (P := (fun v m' => zW E (d) 199 62 [(2, 69), (0, a0), (0, i9), (9, 0), (9, 0), (9, 0), (9, 0), (9, 0), (9, 0), (9, 0)] (if v.1 = 9 then [] else v :: []) m' Q)) ?_ (fun _ _ h => h)
                  generalize hQ1 : (fun v m' => zW E (d) 199 62 [(2, 69), (0, a0), (0, i9), (9, 0), (9, 0), (9, 0), (9, 0), (9, 0), (9, 0), (9, 0)] (if v.1 = 9 then [] else v :: []) m' Q) = Q1
                  show zW E (d - 1) 144 0 [(2, 69), (0, i9), (0, 3)] [] m10 Q1
                  refine zw_7 zr_144_0 rfl ?_
                  refine zw_46r (s := 70) zr_144_1 rfl rfl rfl rfl ?_
                  refine zw_push zr_144_4 ?_
                  refine zw_push zr_144_6 ?_
                  refine zw_3 zr_144_8 rfl ?_
                  refine zw_18 zr_144_9 (by omega) ?_
                  refine zw_16 zr_144_10 (by omega) ?_
                  refine zw_3 zr_144_11 rfl ?_
                  refine zw_16 zr_144_12 (by omega) ?_
                  refine zw_48 (c := 70) (len := 826) zr_144_13 rfl rfl (by omega) (by omega) ?_
                  intro x96 ex96
                  have bx96 := ib_70_m3 hIm10 (k := (((90 + (6 * i9)) + 3)).toNat) (by omega)
                  rw [← ex96] at bx96
                  have qx96 : x96 = F70 (((90 + (6 * i9)) + 3)).toNat := by rw [← fm10_70]; exact ex96
                  refine zw_R zr_144_14 (by decide) zm_144 (v := (0, x96)) rfl ?_
                  rw [← hQ1]
                  show zW E (d) 199 62 [(2, 69), (0, a0), (0, i9), (9, 0), (9, 0), (9, 0), (9, 0), (9, 0), (9, 0), (9, 0)] [(0, x96)] m10 Q
                  refine zw_push zr_199_62 ?_
                  refine zw_41_1 zr_199_63 ?_ ?_
                  · intro h97
                    refine zw_15 (c := 1) (L' := [(2, 69), (0, a0), (0, (i9 + 1)), (9, 0), (9, 0), (9, 0), (9, 0), (9, 0), (9, 0), (9, 0)]) zr_199_121 rfl (by decide) (by omega) rfl ?_
                    refine zw_42 zr_199_124 ?_
                    exact zw_less (L := [(2, 69), (0, a0), (0, (i9 + 1)), (9, 0), (9, 0), (9, 0), (9, 0), (9, 0), (9, 0), (9, 0)]) ⟨Or.inr rfl, Or.inr rfl, Or.inr rfl, Or.inl rfl, Or.inl rfl, Or.inl rfl, Or.inl rfl, Or.inl rfl, Or.inl rfl, Or.inl rfl, trivial⟩ (ihlp39_13 ((i9 + 1)) (f11) (f12) m10 hIm10 hFm10  km10_70_822 km10_70_823 fm10_70 fm10_83 fm10_84 (by omega) (by omega) (by first | exact zWu_skip hv0lp39_13 (by omega) (by omega) | exact zWu_put hv0lp39_13 (by omega) (by omega) (by omega) (by omega) (by omega) hx) (by omega) (by omega))
                  · intro h99
                    refine zw_7 zr_199_66 rfl ?_
                    refine zw_3 zr_199_67 rfl ?_
                    refine zw_push zr_199_68 ?_
                    refine zw_C zr_199_69 (Or.inl rfl) zm_144 rfl rfl ⟨Nat.le_of_ble_eq_true rfl, Nat.le_of_ble_eq_true rfl, Nat.le_of_ble_eq_true rfl, rfl, by decide⟩ (by omega) (P := (fun v m' => zW E (d) 199 72 [(2, 69), (0, a0), (0, i9), (9, 0), (9, 0), (9, 0), (9, 0), (9, 0), (9, 0), (9, 0)] (if v.1 = 9 then [] else v :: []) m' Q)) ?_ (fun _ _ h => h)
                    generalize hQ1 : (fun v m' => zW E (d) 199 72 [(2, 69), (0, a0), (0, i9), (9, 0), (9, 0), (9, 0), (9, 0), (9, 0), (9, 0), (9, 0)] (if v.1 = 9 then [] else v :: []) m' Q) = Q1
                    show zW E (d - 1) 144 0 [(2, 69), (0, i9), (0, 3)] [] m10 Q1
                    refine zw_7 zr_144_0 rfl ?_
                    refine zw_46r (s := 70) zr_144_1 rfl rfl rfl rfl ?_
                    refine zw_push zr_144_4 ?_
                    refine zw_push zr_144_6 ?_
                    refine zw_3 zr_144_8 rfl ?_
                    refine zw_18 zr_144_9 (by omega) ?_
                    refine zw_16 zr_144_10 (by omega) ?_
                    refine zw_3 zr_144_11 rfl ?_
                    refine zw_16 zr_144_12 (by omega) ?_
                    refine zw_48k (c := 70) (len := 826) zr_144_13 rfl rfl (by omega) (by omega) rfl ex96.symm ?_
                    refine zw_R zr_144_14 (by decide) zm_144 (v := (0, x96)) rfl ?_
                    rw [← hQ1]
                    show zW E (d) 199 72 [(2, 69), (0, a0), (0, i9), (9, 0), (9, 0), (9, 0), (9, 0), (9, 0), (9, 0), (9, 0)] [(0, x96)] m10 Q
                    refine zw_push zr_199_72 ?_
                    refine zw_41_4 zr_199_73 ?_ ?_
                    · intro h100
                      refine zw_7 zr_199_85 rfl ?_
                      refine zw_3 zr_199_86 rfl ?_
                      refine zw_push zr_199_87 ?_
                      refine zw_C zr_199_88 (Or.inl rfl) zm_144 rfl rfl ⟨Nat.le_of_ble_eq_true rfl, Nat.le_of_ble_eq_true rfl, Nat.le_of_ble_eq_true rfl, rfl, by decide⟩ (by omega) (P := (fun v m' => zW E (d) 199 91 [(2, 69), (0, a0), (0, i9), (9, 0), (9, 0), (9, 0), (9, 0), (9, 0), (9, 0), (9, 0)] (if v.1 = 9 then [] else v :: []) m' Q)) ?_ (fun _ _ h => h)
                      generalize hQ1 : (fun v m' => zW E (d) 199 91 [(2, 69), (0, a0), (0, i9), (9, 0), (9, 0), (9, 0), (9, 0), (9, 0), (9, 0), (9, 0)] (if v.1 = 9 then [] else v :: []) m' Q) = Q1
                      show zW E (d - 1) 144 0 [(2, 69), (0, i9), (0, 2)] [] m10 Q1
                      refine zw_7 zr_144_0 rfl ?_
                      refine zw_46r (s := 70) zr_144_1 rfl rfl rfl rfl ?_
                      refine zw_push zr_144_4 ?_
                      refine zw_push zr_144_6 ?_
                      refine zw_3 zr_144_8 rfl ?_
                      refine zw_18 zr_144_9 (by omega) ?_
                      refine zw_16 zr_144_10 (by omega) ?_
                      refine zw_3 zr_144_11 rfl ?_
                      refine zw_16 zr_144_12 (by omega) ?_
                      refine zw_48 (c := 70) (len := 826) zr_144_13 rfl rfl (by omega) (by omega) ?_
                      intro x101 ex101
                      have bx101 := ib_70_m2 hIm10 (k := (((90 + (6 * i9)) + 2)).toNat) (by omega)
                      rw [← ex101] at bx101
                      have qx101 : x101 = F70 (((90 + (6 * i9)) + 2)).toNat := by rw [← fm10_70]; exact ex101
                      refine zw_R zr_144_14 (by decide) zm_144 (v := (0, x101)) rfl ?_
                      rw [← hQ1]
                      show zW E (d) 199 91 [(2, 69), (0, a0), (0, i9), (9, 0), (9, 0), (9, 0), (9, 0), (9, 0), (9, 0), (9, 0)] [(0, x101)] m10 Q
                      refine zw_9 (L' := [(2, 69), (0, a0), (0, i9), (0, x101), (9, 0), (9, 0), (9, 0), (9, 0), (9, 0), (9, 0)]) zr_199_91 (Nat.le_of_ble_eq_true rfl) rfl ?_
                      refine zw_7 zr_199_92 rfl ?_
                      refine zw_46r (s := 83) zr_199_93 rfl rfl rfl rfl ?_
                      refine zw_push zr_199_96 ?_
                      refine zw_3 zr_199_98 rfl ?_
                      refine zw_18 zr_199_99 (by omega) ?_
                      refine zw_7 zr_199_100 rfl ?_
                      refine zw_3 zr_199_101 rfl ?_
                      refine zw_push zr_199_102 ?_
                      refine zw_C zr_199_103 (Or.inl rfl) zm_144 rfl rfl ⟨Nat.le_of_ble_eq_true rfl, Nat.le_of_ble_eq_true rfl, Nat.le_of_ble_eq_true rfl, rfl, by decide⟩ (by omega) (P := (fun v m' => zW E (d) 199 106 [(2, 69), (0, a0), (0, i9), (0, x101), (9, 0), (9, 0), (9, 0), (9, 0), (9, 0), (9, 0)] (if v.1 = 9 then [(0, (10 * x101)), (2, 83)] else v :: [(0, (10 * x101)), (2, 83)]) m' Q)) ?_ (fun _ _ h => h)
                      generalize hQ1 : (fun v m' => zW E (d) 199 106 [(2, 69), (0, a0), (0, i9), (0, x101), (9, 0), (9, 0), (9, 0), (9, 0), (9, 0), (9, 0)] (if v.1 = 9 then [(0, (10 * x101)), (2, 83)] else v :: [(0, (10 * x101)), (2, 83)]) m' Q) = Q1
                      show zW E (d - 1) 144 0 [(2, 69), (0, i9), (0, 1)] [] m10 Q1
                      refine zw_7 zr_144_0 rfl ?_
                      refine zw_46r (s := 70) zr_144_1 rfl rfl rfl rfl ?_
                      refine zw_push zr_144_4 ?_
                      refine zw_push zr_144_6 ?_
                      refine zw_3 zr_144_8 rfl ?_
                      refine zw_18 zr_144_9 (by omega) ?_
                      refine zw_16 zr_144_10 (by omega) ?_
                      refine zw_3 zr_144_11 rfl ?_
                      refine zw_16 zr_144_12 (by omega) ?_
                      refine zw_48 (c := 70) (len := 826) zr_144_13 rfl rfl (by omega) (by omega) ?_
                      intro x102 ex102
                      have bx102 := ib_70_m1 hIm10 (k := (((90 + (6 * i9)) + 1)).toNat) (by omega)
                      rw [← ex102] at bx102
                      have qx102 : x102 = F70 (((90 + (6 * i9)) + 1)).toNat := by rw [← fm10_70]; exact ex102
                      refine zw_R zr_144_14 (by decide) zm_144 (v := (0, x102)) rfl ?_
                      rw [← hQ1]
                      show zW E (d) 199 106 [(2, 69), (0, a0), (0, i9), (0, x101), (9, 0), (9, 0), (9, 0), (9, 0), (9, 0), (9, 0)] [(0, x102), (0, (10 * x101)), (2, 83)] m10 Q
                      refine zw_16 zr_199_106 (by omega) ?_
                      refine zw_7 zr_199_107 rfl ?_
                      refine zw_3 zr_199_108 rfl ?_
                      refine zw_push zr_199_109 ?_
                      refine zw_C zr_199_110 (Or.inl rfl) zm_144 rfl rfl ⟨Nat.le_of_ble_eq_true rfl, Nat.le_of_ble_eq_true rfl, Nat.le_of_ble_eq_true rfl, rfl, by decide⟩ (by omega) (P := (fun v m' => zW E (d) 199 113 [(2, 69), (0, a0), (0, i9), (0, x101), (9, 0), (9, 0), (9, 0), (9, 0), (9, 0), (9, 0)] (if v.1 = 9 then [(0, ((10 * x101) + x102)), (2, 83)] else v :: [(0, ((10 * x101) + x102)), (2, 83)]) m' Q)) ?_ (fun _ _ h => h)
                      generalize hQ1 : (fun v m' => zW E (d) 199 113 [(2, 69), (0, a0), (0, i9), (0, x101), (9, 0), (9, 0), (9, 0), (9, 0), (9, 0), (9, 0)] (if v.1 = 9 then [(0, ((10 * x101) + x102)), (2, 83)] else v :: [(0, ((10 * x101) + x102)), (2, 83)]) m' Q) = Q1
                      show zW E (d - 1) 144 0 [(2, 69), (0, i9), (0, 2)] [] m10 Q1
                      refine zw_7 zr_144_0 rfl ?_
                      refine zw_46r (s := 70) zr_144_1 rfl rfl rfl rfl ?_
                      refine zw_push zr_144_4 ?_
                      refine zw_push zr_144_6 ?_
                      refine zw_3 zr_144_8 rfl ?_
                      refine zw_18 zr_144_9 (by omega) ?_
                      refine zw_16 zr_144_10 (by omega) ?_
                      refine zw_3 zr_144_11 rfl ?_
                      refine zw_16 zr_144_12 (by omega) ?_
                      refine zw_48k (c := 70) (len := 826) zr_144_13 rfl rfl (by omega) (by omega) rfl ex101.symm ?_
                      refine zw_R zr_144_14 (by decide) zm_144 (v := (0, x101)) rfl ?_
                      rw [← hQ1]
                      show zW E (d) 199 113 [(2, 69), (0, a0), (0, i9), (0, x101), (9, 0), (9, 0), (9, 0), (9, 0), (9, 0), (9, 0)] [(0, x101), (0, ((10 * x101) + x102)), (2, 83)] m10 Q
                      refine zw_16 zr_199_113 (by omega) ?_
                      refine zw_3 zr_199_114 rfl ?_
                      refine zw_17 zr_199_115 (by omega) ?_
                      refine zw_45 zr_199_116 ⟨rfl, rfl⟩ ?_
                      refine zw_48 (c := 83) (len := 100) zr_199_117 rfl rfl (by omega) (by omega) ?_
                      intro x103 ex103
                      have bx103 := ib_83 hIm10 (k := (((((10 * x101) + x102) + x101) - x101)).toNat) (by omega)
                      rw [← ex103] at bx103
                      have qx103 : x103 = f11 (((((10 * x101) + x102) + x101) - x101)).toNat := by rw [← fm10_83]; exact ex103
                      clear ex103
                      have hx := qx103
                      have z105 : x103 ≤ i9 := by rw [qx103]; exact zWu_le hv0lp39_13 (by omega) (by omega)
                      refine zw_push zr_199_118 ?_
                      refine zw_16 zr_199_119 (by omega) ?_
                      refine zw_49 (c := 83) (len := 100) zr_199_120 rfl rfl (by omega) (by omega) ?_
                      intro m106 em106
                      have hIm106 : zInv m106 := by rw [em106]; exact iu_83 hIm10 (by omega)
                      have hFm106 : zFr W_199 m0 m106 := by rw [em106]; exact hFm10.any rfl
                      have km106_70_822 : m106 70 822 = g0 := by rw [em106, zUp_ne (by omega)]; exact km10_70_822
                      have km106_70_823 : m106 70 823 = g1 := by rw [em106, zUp_ne (by omega)]; exact km10_70_823
                      have fm106_70 : m106 70 = F70 := by rw [em106, zUp_fn (by decide)]; exact fm10_70
                      have fm106_83 : m106 83 = zPt f11 ((((((10 * x101) + x102) + x101) - x101)).toNat) ((x103 + 1)) := by rw [em106]; exact (zUp_ff (m := m10)).trans (congrArg (fun q => zPt q ((((((10 * x101) + x102) + x101) - x101)).toNat) ((x103 + 1))) fm10_83)
                      have fm106_84 : m106 84 = f12 := by rw [em106, zUp_fn (by decide)]; exact fm10_84
                      clear em106
                      refine zw_15 (c := 1) (L' := [(2, 69), (0, a0), (0, (i9 + 1)), (0, x101), (9, 0), (9, 0), (9, 0), (9, 0), (9, 0), (9, 0)]) zr_199_121 rfl (by decide) (by omega) rfl ?_
                      refine zw_42 zr_199_124 ?_
                      exact zw_less (L := [(2, 69), (0, a0), (0, (i9 + 1)), (9, 0), (9, 0), (9, 0), (9, 0), (9, 0), (9, 0), (9, 0)]) ⟨Or.inr rfl, Or.inr rfl, Or.inr rfl, Or.inl rfl, Or.inl rfl, Or.inl rfl, Or.inl rfl, Or.inl rfl, Or.inl rfl, Or.inl rfl, trivial⟩ (ihlp39_13 ((i9 + 1)) (zPt f11 ((((((10 * x101) + x102) + x101) - x101)).toNat) ((x103 + 1))) (f12) m106 hIm106 hFm106  km106_70_822 km106_70_823 fm106_70 fm106_83 fm106_84 (by omega) (by omega) (by first | exact zWu_skip hv0lp39_13 (by omega) (by omega) | exact zWu_put hv0lp39_13 (by omega) (by omega) (by omega) (by omega) (by omega) hx) (by omega) (by omega))
                    · intro h108
                      refine zw_7 zr_199_76 rfl ?_
                      refine zw_3 zr_199_77 rfl ?_
                      refine zw_push zr_199_78 ?_
                      refine zw_C zr_199_79 (Or.inl rfl) zm_144 rfl rfl ⟨Nat.le_of_ble_eq_true rfl, Nat.le_of_ble_eq_true rfl, Nat.le_of_ble_eq_true rfl, rfl, by decide⟩ (by omega) (P := (fun v m' => zW E (d) 199 82 [(2, 69), (0, a0), (0, i9), (9, 0), (9, 0), (9, 0), (9, 0), (9, 0), (9, 0), (9, 0)] (if v.1 = 9 then [] else v :: []) m' Q)) ?_ (fun _ _ h => h)
                      generalize hQ1 : (fun v m' => zW E (d) 199 82 [(2, 69), (0, a0), (0, i9), (9, 0), (9, 0), (9, 0), (9, 0), (9, 0), (9, 0), (9, 0)] (if v.1 = 9 then [] else v :: []) m' Q) = Q1
                      show zW E (d - 1) 144 0 [(2, 69), (0, i9), (0, 1)] [] m10 Q1
                      refine zw_7 zr_144_0 rfl ?_
                      refine zw_46r (s := 70) zr_144_1 rfl rfl rfl rfl ?_
                      refine zw_push zr_144_4 ?_
                      refine zw_push zr_144_6 ?_
                      refine zw_3 zr_144_8 rfl ?_
                      refine zw_18 zr_144_9 (by omega) ?_
                      refine zw_16 zr_144_10 (by omega) ?_
                      refine zw_3 zr_144_11 rfl ?_
                      refine zw_16 zr_144_12 (by omega) ?_
                      refine zw_48 (c := 70) (len := 826) zr_144_13 rfl rfl (by omega) (by omega) ?_
                      intro x109 ex109
                      have bx109 := ib_70_m1 hIm10 (k := (((90 + (6 * i9)) + 1)).toNat) (by omega)
                      rw [← ex109] at bx109
                      have qx109 : x109 = F70 (((90 + (6 * i9)) + 1)).toNat := by rw [← fm10_70]; exact ex109
                      refine zw_R zr_144_14 (by decide) zm_144 (v := (0, x109)) rfl ?_
                      rw [← hQ1]
                      show zW E (d) 199 82 [(2, 69), (0, a0), (0, i9), (9, 0), (9, 0), (9, 0), (9, 0), (9, 0), (9, 0), (9, 0)] [(0, x109)] m10 Q
                      refine zw_42 zr_199_82 ?_
                      refine zw_9 (L' := [(2, 69), (0, a0), (0, i9), (0, x109), (9, 0), (9, 0), (9, 0), (9, 0), (9, 0), (9, 0)]) zr_199_91 (Nat.le_of_ble_eq_true rfl) rfl ?_
                      refine zw_7 zr_199_92 rfl ?_
                      refine zw_46r (s := 83) zr_199_93 rfl rfl rfl rfl ?_
                      refine zw_push zr_199_96 ?_
                      refine zw_3 zr_199_98 rfl ?_
                      refine zw_18 zr_199_99 (by omega) ?_
                      refine zw_7 zr_199_100 rfl ?_
                      refine zw_3 zr_199_101 rfl ?_
                      refine zw_push zr_199_102 ?_
                      refine zw_C zr_199_103 (Or.inl rfl) zm_144 rfl rfl ⟨Nat.le_of_ble_eq_true rfl, Nat.le_of_ble_eq_true rfl, Nat.le_of_ble_eq_true rfl, rfl, by decide⟩ (by omega) (P := (fun v m' => zW E (d) 199 106 [(2, 69), (0, a0), (0, i9), (0, x109), (9, 0), (9, 0), (9, 0), (9, 0), (9, 0), (9, 0)] (if v.1 = 9 then [(0, (10 * x109)), (2, 83)] else v :: [(0, (10 * x109)), (2, 83)]) m' Q)) ?_ (fun _ _ h => h)
                      generalize hQ1 : (fun v m' => zW E (d) 199 106 [(2, 69), (0, a0), (0, i9), (0, x109), (9, 0), (9, 0), (9, 0), (9, 0), (9, 0), (9, 0)] (if v.1 = 9 then [(0, (10 * x109)), (2, 83)] else v :: [(0, (10 * x109)), (2, 83)]) m' Q) = Q1
                      show zW E (d - 1) 144 0 [(2, 69), (0, i9), (0, 1)] [] m10 Q1
                      refine zw_7 zr_144_0 rfl ?_
                      refine zw_46r (s := 70) zr_144_1 rfl rfl rfl rfl ?_
                      refine zw_push zr_144_4 ?_
                      refine zw_push zr_144_6 ?_
                      refine zw_3 zr_144_8 rfl ?_
                      refine zw_18 zr_144_9 (by omega) ?_
                      refine zw_16 zr_144_10 (by omega) ?_
                      refine zw_3 zr_144_11 rfl ?_
                      refine zw_16 zr_144_12 (by omega) ?_
                      refine zw_48k (c := 70) (len := 826) zr_144_13 rfl rfl (by omega) (by omega) rfl ex109.symm ?_
                      refine zw_R zr_144_14 (by decide) zm_144 (v := (0, x109)) rfl ?_
                      rw [← hQ1]
                      show zW E (d) 199 106 [(2, 69), (0, a0), (0, i9), (0, x109), (9, 0), (9, 0), (9, 0), (9, 0), (9, 0), (9, 0)] [(0, x109), (0, (10 * x109)), (2, 83)] m10 Q
                      refine zw_16 zr_199_106 (by omega) ?_
                      refine zw_7 zr_199_107 rfl ?_
                      refine zw_3 zr_199_108 rfl ?_
                      refine zw_push zr_199_109 ?_
                      refine zw_C zr_199_110 (Or.inl rfl) zm_144 rfl rfl ⟨Nat.le_of_ble_eq_true rfl, Nat.le_of_ble_eq_true rfl, Nat.le_of_ble_eq_true rfl, rfl, by decide⟩ (by omega) (P := (fun v m' => zW E (d) 199 113 [(2, 69), (0, a0), (0, i9), (0, x109), (9, 0), (9, 0), (9, 0), (9, 0), (9, 0), (9, 0)] (if v.1 = 9 then [(0, ((10 * x109) + x109)), (2, 83)] else v :: [(0, ((10 * x109) + x109)), (2, 83)]) m' Q)) ?_ (fun _ _ h => h)
                      generalize hQ1 : (fun v m' => zW E (d) 199 113 [(2, 69), (0, a0), (0, i9), (0, x109), (9, 0), (9, 0), (9, 0), (9, 0), (9, 0), (9, 0)] (if v.1 = 9 then [(0, ((10 * x109) + x109)), (2, 83)] else v :: [(0, ((10 * x109) + x109)), (2, 83)]) m' Q) = Q1
                      show zW E (d - 1) 144 0 [(2, 69), (0, i9), (0, 2)] [] m10 Q1
                      refine zw_7 zr_144_0 rfl ?_
                      refine zw_46r (s := 70) zr_144_1 rfl rfl rfl rfl ?_
                      refine zw_push zr_144_4 ?_
                      refine zw_push zr_144_6 ?_
                      refine zw_3 zr_144_8 rfl ?_
                      refine zw_18 zr_144_9 (by omega) ?_
                      refine zw_16 zr_144_10 (by omega) ?_
                      refine zw_3 zr_144_11 rfl ?_
                      refine zw_16 zr_144_12 (by omega) ?_
                      refine zw_48 (c := 70) (len := 826) zr_144_13 rfl rfl (by omega) (by omega) ?_
                      intro x110 ex110
                      have bx110 := ib_70_m2 hIm10 (k := (((90 + (6 * i9)) + 2)).toNat) (by omega)
                      rw [← ex110] at bx110
                      have qx110 : x110 = F70 (((90 + (6 * i9)) + 2)).toNat := by rw [← fm10_70]; exact ex110
                      refine zw_R zr_144_14 (by decide) zm_144 (v := (0, x110)) rfl ?_
                      rw [← hQ1]
                      show zW E (d) 199 113 [(2, 69), (0, a0), (0, i9), (0, x109), (9, 0), (9, 0), (9, 0), (9, 0), (9, 0), (9, 0)] [(0, x110), (0, ((10 * x109) + x109)), (2, 83)] m10 Q
                      refine zw_16 zr_199_113 (by omega) ?_
                      refine zw_3 zr_199_114 rfl ?_
                      refine zw_17 zr_199_115 (by omega) ?_
                      refine zw_45 zr_199_116 ⟨rfl, rfl⟩ ?_
                      refine zw_48 (c := 83) (len := 100) zr_199_117 rfl rfl (by omega) (by omega) ?_
                      intro x111 ex111
                      have bx111 := ib_83 hIm10 (k := (((((10 * x109) + x109) + x110) - x109)).toNat) (by omega)
                      rw [← ex111] at bx111
                      have qx111 : x111 = f11 (((((10 * x109) + x109) + x110) - x109)).toNat := by rw [← fm10_83]; exact ex111
                      clear ex111
                      have hx := qx111
                      have z113 : x111 ≤ i9 := by rw [qx111]; exact zWu_le hv0lp39_13 (by omega) (by omega)
                      refine zw_push zr_199_118 ?_
                      refine zw_16 zr_199_119 (by omega) ?_
                      refine zw_49 (c := 83) (len := 100) zr_199_120 rfl rfl (by omega) (by omega) ?_
                      intro m114 em114
                      have hIm114 : zInv m114 := by rw [em114]; exact iu_83 hIm10 (by omega)
                      have hFm114 : zFr W_199 m0 m114 := by rw [em114]; exact hFm10.any rfl
                      have km114_70_822 : m114 70 822 = g0 := by rw [em114, zUp_ne (by omega)]; exact km10_70_822
                      have km114_70_823 : m114 70 823 = g1 := by rw [em114, zUp_ne (by omega)]; exact km10_70_823
                      have fm114_70 : m114 70 = F70 := by rw [em114, zUp_fn (by decide)]; exact fm10_70
                      have fm114_83 : m114 83 = zPt f11 ((((((10 * x109) + x109) + x110) - x109)).toNat) ((x111 + 1)) := by rw [em114]; exact (zUp_ff (m := m10)).trans (congrArg (fun q => zPt q ((((((10 * x109) + x109) + x110) - x109)).toNat) ((x111 + 1))) fm10_83)
                      have fm114_84 : m114 84 = f12 := by rw [em114, zUp_fn (by decide)]; exact fm10_84
                      clear em114
                      refine zw_15 (c := 1) (L' := [(2, 69), (0, a0), (0, (i9 + 1)), (0, x109), (9, 0), (9, 0), (9, 0), (9, 0), (9, 0), (9, 0)]) zr_199_121 rfl (by decide) (by omega) rfl ?_
                      refine zw_42 zr_199_124 ?_
                      exact zw_less (L := [(2, 69), (0, a0), (0, (i9 + 1)), (9, 0), (9, 0), (9, 0), (9, 0), (9, 0), (9, 0), (9, 0)]) ⟨Or.inr rfl, Or.inr rfl, Or.inr rfl, Or.inl rfl, Or.inl rfl, Or.inl rfl, Or.inl rfl, Or.inl rfl, Or.inl rfl, Or.inl rfl, trivial⟩ (ihlp39_13 ((i9 + 1)) (zPt f11 ((((((10 * x109) + x109) + x110) - x109)).toNat) ((x111 + 1))) (f12) m114 hIm114 hFm114  km114_70_822 km114_70_823 fm114_70 fm114_83 fm114_84 (by omega) (by omega) (by first | exact zWu_skip hv0lp39_13 (by omega) (by omega) | exact zWu_put hv0lp39_13 (by omega) (by omega) (by omega) (by omega) (by omega) hx) (by omega) (by omega))
          exact lp39_13 _ (0) (f4) (f5) m3 hIm3 hFm3  km3_70_822 km3_70_823 fm3_70 fm3_83 fm3_84 (by omega) (by omega) (zWu_0 hv0lp18_6 (by omega)) (by omega) (Nat.lt_succ_self _)
        · intro h117
          refine zw_7 zr_199_24 rfl ?_
          refine zw_46r (s := 83) zr_199_25 rfl rfl rfl rfl ?_
          refine zw_3 zr_199_28 rfl ?_
          refine zw_push zr_199_29 ?_
          refine zw_49 (c := 83) (len := 100) zr_199_30 rfl rfl (by omega) (by omega) ?_
          intro m118 em118
          have hIm118 : zInv m118 := by rw [em118]; exact iu_83 hIm3 (by omega)
          have hFm118 : zFr W_199 m0 m118 := by rw [em118]; exact hFm3.any rfl
          have km118_70_822 : m118 70 822 = g0 := by rw [em118, zUp_ne (by omega)]; exact km3_70_822
          have km118_70_823 : m118 70 823 = g1 := by rw [em118, zUp_ne (by omega)]; exact km3_70_823
          have fm118_70 : m118 70 = F70 := by rw [em118, zUp_fn (by decide)]; exact fm3_70
          have fm118_83 : m118 83 = zPt f4 ((i2).toNat) 0 := by rw [em118]; exact (zUp_ff (m := m3)).trans (congrArg (fun q => zPt q ((i2).toNat) 0) fm3_83)
          have fm118_84 : m118 84 = f5 := by rw [em118, zUp_fn (by decide)]; exact fm3_84
          clear em118
          refine zw_15 (c := 1) (L' := [(2, 69), (0, a0), (0, (i2 + 1)), (9, 0), (9, 0), (9, 0), (9, 0), (9, 0), (9, 0), (9, 0)]) zr_199_31 rfl (by decide) (by omega) rfl ?_
          refine zw_42 zr_199_34 ?_
          exact zw_less (L := [(2, 69), (0, a0), (0, (i2 + 1)), (9, 0), (9, 0), (9, 0), (9, 0), (9, 0), (9, 0), (9, 0)]) ⟨Or.inr rfl, Or.inr rfl, Or.inr rfl, Or.inl rfl, Or.inl rfl, Or.inl rfl, Or.inl rfl, Or.inl rfl, Or.inl rfl, Or.inl rfl, trivial⟩ (ihlp18_6 ((i2 + 1)) (zPt f4 ((i2).toNat) 0) (f5) m118 hIm118 hFm118  km118_70_822 km118_70_823 fm118_70 fm118_83 fm118_84 (by omega) (by omega) (zFil_put hv0lp18_6 (by omega)) (by omega))
    exact lp18_6 _ (0) (F83) (F84) m0 hI0 hF0  hg0 hg1 hG70 hG83 hG84 (by omega) (by omega) (zFil_0) (Nat.lt_succ_self _)
  · intro h121
    refine zw_7 zr_199_5 rfl ?_
    refine zw_3 zr_199_6 rfl ?_
    refine zw_C zr_199_7 (Or.inl rfl) zm_143 rfl rfl ⟨Nat.le_of_ble_eq_true rfl, Nat.le_of_ble_eq_true rfl, Nat.le_of_ble_eq_true rfl, rfl, by decide⟩ (by omega) (P := (fun v m' => zW E (d) 199 10 [(2, 69), (0, a0), (9, 0), (9, 0), (9, 0), (9, 0), (9, 0), (9, 0), (9, 0), (9, 0)] (if v.1 = 9 then [] else v :: []) m' Q)) ?_ (fun _ _ h => h)
    generalize hQ1 : (fun v m' => zW E (d) 199 10 [(2, 69), (0, a0), (9, 0), (9, 0), (9, 0), (9, 0), (9, 0), (9, 0), (9, 0), (9, 0)] (if v.1 = 9 then [] else v :: []) m' Q) = Q1
    show zW E (d - 1) 143 0 [(2, 69), (0, a0)] [] m0 Q1
    refine zw_3 zr_143_0 rfl ?_
    refine zw_36 zr_143_1 ?_
    refine zw_push zr_143_2 ?_
    refine zw_7 zr_143_3 rfl ?_
    refine zw_C zr_143_4 (Or.inl rfl) zm_141 rfl rfl ⟨Nat.le_of_ble_eq_true rfl, Nat.le_of_ble_eq_true rfl, Nat.le_of_ble_eq_true rfl, rfl, by decide⟩ (by omega) (P := (fun v m' => zW E (d - 1) 143 7 [(2, 69), (0, a0)] (if v.1 = 9 then [(1, 0), (1, a0)] else v :: [(1, 0), (1, a0)]) m' Q1)) ?_ (fun _ _ h => h)
    generalize hQ2 : (fun v m' => zW E (d - 1) 143 7 [(2, 69), (0, a0)] (if v.1 = 9 then [(1, 0), (1, a0)] else v :: [(1, 0), (1, a0)]) m' Q1) = Q2
    show zW E (d - 1 - 1) 141 0 [(2, 69)] [] m0 Q2
    refine zw_7 zr_141_0 rfl ?_
    refine zw_46r (s := 70) zr_141_1 rfl rfl rfl rfl ?_
    refine zw_push zr_141_4 ?_
    refine zw_48k (c := 70) (len := 826) zr_141_7 rfl rfl (by omega) (by omega) (show (822 : Int).toNat = 822 by omega) hg0 ?_
    refine zw_R zr_141_8 (by decide) zm_141 (v := (0, g0)) rfl ?_
    rw [← hQ2]
    show zW E (d - 1) 143 7 [(2, 69), (0, a0)] [(0, g0), (1, 0), (1, a0)] m0 Q1
    refine zw_push zr_143_7 ?_
    refine zw_17 zr_143_8 (by omega) ?_
    refine zw_36 zr_143_9 ?_
    refine zw_C zr_143_10 (Or.inr rfl) zm_140 rfl rfl ⟨Nat.le_of_ble_eq_true rfl, Nat.le_of_ble_eq_true rfl, Nat.le_of_ble_eq_true rfl, rfl, by decide⟩ (by omega) (P := (fun v m' => zW E (d - 1) 143 13 [(2, 69), (0, a0)] (if v.1 = 9 then [] else v :: []) m' Q1)) ?_ (fun _ _ h => h)
    generalize hQ2 : (fun v m' => zW E (d - 1) 143 13 [(2, 69), (0, a0)] (if v.1 = 9 then [] else v :: []) m' Q1) = Q2
    show zW E (d - 1 - 1) 140 0 [(1, a0), (9, 0), (1, 0), (9, 0), (1, (g0 - 1)), (9, 0)] [] m0 Q2
    refine zw_5 zr_140_0 rfl ?_
    refine zw_5 zr_140_1 rfl ?_
    refine zw_39_0 zr_140_2 zr_140_3 ?_ ?_
    · intro h122
      refine zw_push zr_140_17 ?_
      refine zw_R zr_140_18 (by decide) zm_140 (v := (0, 0)) (zRetB (by omega)) ?_
      rw [← hQ2]
      show zW E (d - 1) 143 13 [(2, 69), (0, a0)] [(0, 0)] m0 Q1
      refine zw_R zr_143_13 (by decide) zm_143 (v := (0, 0)) (zRetB (by omega)) ?_
      rw [← hQ1]
      show zW E (d) 199 10 [(2, 69), (0, a0), (9, 0), (9, 0), (9, 0), (9, 0), (9, 0), (9, 0), (9, 0), (9, 0)] [(0, 0)] m0 Q
      refine zw_40_4 zr_199_10 ?_ ?_
      · intro h123; omega
      · intro h124
        refine zw_push zr_199_13 ?_
        refine zw_R zr_199_15 (by decide) zm_199 (v := (0, (-2))) rfl ?_
        rw [← hQ]; exact ⟨_, rfl, by omega, by omega, hI0, hF0, by first | exact ⟨_, zWu_i, Or.inl ⟨rfl, by omega⟩⟩ | exact ⟨_, hU, zWa_m zz (by omega) (by omega) (by omega) rfl⟩ | exact ⟨_, hU, zWe_e zz (by omega) (by omega) rfl⟩⟩
    · intro h126
      refine zw_5 zr_140_6 rfl ?_
      refine zw_6 zr_140_7 rfl ?_
      refine zw_39_2 zr_140_9 zr_140_10 ?_ ?_
      · intro h127
        refine zw_push zr_140_17 ?_
        refine zw_R zr_140_18 (by decide) zm_140 (v := (0, 0)) (zRetB (by omega)) ?_
        rw [← hQ2]
        show zW E (d - 1) 143 13 [(2, 69), (0, a0)] [(0, 0)] m0 Q1
        refine zw_R zr_143_13 (by decide) zm_143 (v := (0, 0)) (zRetB (by omega)) ?_
        rw [← hQ1]
        show zW E (d) 199 10 [(2, 69), (0, a0), (9, 0), (9, 0), (9, 0), (9, 0), (9, 0), (9, 0), (9, 0), (9, 0)] [(0, 0)] m0 Q
        refine zw_40_4 zr_199_10 ?_ ?_
        · intro h128; omega
        · intro h129
          refine zw_push zr_199_13 ?_
          refine zw_R zr_199_15 (by decide) zm_199 (v := (0, (-2))) rfl ?_
          rw [← hQ]; exact ⟨_, rfl, by omega, by omega, hI0, hF0, by first | exact ⟨_, zWu_i, Or.inl ⟨rfl, by omega⟩⟩ | exact ⟨_, hU, zWa_m zz (by omega) (by omega) (by omega) rfl⟩ | exact ⟨_, hU, zWe_e zz (by omega) (by omega) rfl⟩⟩
      · intro h131
        refine zw_push zr_140_13 ?_
        refine zw_42 zr_140_14 ?_
        refine zw_R zr_140_18 (by decide) zm_140 (v := (0, 1)) (zRetB (by omega)) ?_
        rw [← hQ2]
        show zW E (d - 1) 143 13 [(2, 69), (0, a0)] [(0, 1)] m0 Q1
        refine zw_R zr_143_13 (by decide) zm_143 (v := (0, 1)) (zRetB (by omega)) ?_
        rw [← hQ1]
        show zW E (d) 199 10 [(2, 69), (0, a0), (9, 0), (9, 0), (9, 0), (9, 0), (9, 0), (9, 0), (9, 0), (9, 0)] [(0, 1)] m0 Q
        refine zw_40_4 zr_199_10 ?_ ?_
        · intro h132
          refine zw_push zr_199_16 ?_
          refine zw_9 (L' := [(2, 69), (0, a0), (0, 0), (9, 0), (9, 0), (9, 0), (9, 0), (9, 0), (9, 0), (9, 0)]) zr_199_17 (Nat.le_of_ble_eq_true rfl) rfl ?_
          have lp18_137 : ∀ (nlp18_137 : Nat) (i133 : Int) (f135 : Nat → Int) (f136 : Nat → Int) (m134 : zM), zInv m134 → zFr W_199 m0 m134 → m134 70 822 = g0 → m134 70 823 = g1 → m134 70 = F70 → m134 83 = f135 → m134 84 = f136 → 0 ≤ i133 → i133 ≤ 100 → (zFil f135 i133 0) → (100 - i133).toNat < nlp18_137 → zW E (d) 199 18 [(2, 69), (0, a0), (0, i133), (9, 0), (9, 0), (9, 0), (9, 0), (9, 0), (9, 0), (9, 0)] [] m134 Q := by
            intro nlp18_137
            induction nlp18_137 with
            | zero =>
              intros
              exact absurd (by assumption : _ < 0) (Nat.not_lt_zero _)
            | succ nlp18_137 ihlp18_137 =>
              intro i133 f135 f136 m134 hIm134 hFm134 km134_70_822 km134_70_823 fm134_70 fm134_83 fm134_84 li133 ui133 hv0lp18_137 hmlp18_137
              refine zw_3 zr_199_18 rfl ?_
              refine zw_push zr_199_19 ?_
              refine zw_41_3 zr_199_21 ?_ ?_
              · intro h139
                refine zw_push zr_199_37 ?_
                refine zw_9 (L' := [(2, 69), (0, a0), (0, 0), (9, 0), (9, 0), (9, 0), (9, 0), (9, 0), (9, 0), (9, 0)]) zr_199_38 (Nat.le_of_ble_eq_true rfl) rfl ?_
                have lp39_144 : ∀ (nlp39_144 : Nat) (i140 : Int) (f142 : Nat → Int) (f143 : Nat → Int) (m141 : zM), zInv m141 → zFr W_199 m0 m141 → m141 70 822 = g0 → m141 70 823 = g1 → m141 70 = F70 → m141 83 = f142 → m141 84 = f143 → 0 ≤ i140 → i140 ≤ 60 → (zWu f142 F70 i140) → (i140 ≤ g1) → (60 - i140).toNat < nlp39_144 → zW E (d) 199 39 [(2, 69), (0, a0), (0, i140), (9, 0), (9, 0), (9, 0), (9, 0), (9, 0), (9, 0), (9, 0)] [] m141 Q := by
                  intro nlp39_144
                  induction nlp39_144 with
                  | zero =>
                    intros
                    exact absurd (by assumption : _ < 0) (Nat.not_lt_zero _)
                  | succ nlp39_144 ihlp39_144 =>
                    intro i140 f142 f143 m141 hIm141 hFm141 km141_70_822 km141_70_823 fm141_70 fm141_83 fm141_84 li140 ui140 hv0lp39_144 hv1lp39_144 hmlp39_144
                    have z146 : F70 ((90 + (6 * i140)) + 1).toNat = F70 (91 + 6 * (i140).toNat) := congrArg F70 (by omega)
                    have z147 : F70 ((90 + (6 * i140)) + 2).toNat = F70 (92 + 6 * (i140).toNat) := congrArg F70 (by omega)
                    have z148 : F70 ((90 + (6 * i140)) + 3).toNat = F70 (93 + 6 * (i140).toNat) := congrArg F70 (by omega)
                    have z149 : F70 ((90 + (6 * i140)) + 4).toNat = F70 (94 + 6 * (i140).toNat) := congrArg F70 (by omega)
                    refine zw_3 zr_199_39 rfl ?_
                    refine zw_7 zr_199_40 rfl ?_
                    refine zw_C zr_199_41 (Or.inl rfl) zm_142 rfl rfl ⟨Nat.le_of_ble_eq_true rfl, Nat.le_of_ble_eq_true rfl, Nat.le_of_ble_eq_true rfl, rfl, by decide⟩ (by omega) (P := (fun v m' => zW E (d) 199 44 [(2, 69), (0, a0), (0, i140), (9, 0), (9, 0), (9, 0), (9, 0), (9, 0), (9, 0), (9, 0)] (if v.1 = 9 then [(0, i140)] else v :: [(0, i140)]) m' Q)) ?_ (fun _ _ h => h)
                    generalize hQ1 : (fun v m' => zW E (d) 199 44 [(2, 69), (0, a0), (0, i140), (9, 0), (9, 0), (9, 0), (9, 0), (9, 0), (9, 0), (9, 0)] (if v.1 = 9 then [(0, i140)] else v :: [(0, i140)]) m' Q) = Q1
                    show zW E (d - 1) 142 0 [(2, 69)] [] m141 Q1
                    refine zw_7 zr_142_0 rfl ?_
                    refine zw_46r (s := 70) zr_142_1 rfl rfl rfl rfl ?_
                    refine zw_push zr_142_4 ?_
                    refine zw_48k (c := 70) (len := 826) zr_142_7 rfl rfl (by omega) (by omega) (show (823 : Int).toNat = 823 by omega) km141_70_823 ?_
                    refine zw_R zr_142_8 (by decide) zm_142 (v := (0, g1)) rfl ?_
                    rw [← hQ1]
                    show zW E (d) 199 44 [(2, 69), (0, a0), (0, i140), (9, 0), (9, 0), (9, 0), (9, 0), (9, 0), (9, 0), (9, 0)] [(0, g1), (0, i140)] m141 Q
                    refine zw_41_3 zr_199_44 ?_ ?_
                    · intro h150
                      have hU : zWu f142 F70 g1 := by have z := hv0lp39_144; rw [show i140 = g1 by omega] at z; exact z
                      refine zw_push zr_199_127 ?_
                      refine zw_9 (L' := [(2, 69), (0, a0), (0, 1), (9, 0), (9, 0), (9, 0), (9, 0), (9, 0), (9, 0), (9, 0)]) zr_199_128 (Nat.le_of_ble_eq_true rfl) rfl ?_
                      refine zw_push zr_199_129 ?_
                      refine zw_9 (L' := [(2, 69), (0, a0), (0, 1), (0, 0), (9, 0), (9, 0), (9, 0), (9, 0), (9, 0), (9, 0)]) zr_199_130 (Nat.le_of_ble_eq_true rfl) rfl ?_
                      have lp131_156 : ∀ (nlp131_156 : Nat) (i152 i153 : Int) (f155 : Nat → Int) (m154 : zM), zInv m154 → zFr W_199 m0 m154 → m154 70 822 = g0 → m154 70 823 = g1 → m154 70 = F70 → m154 83 = f142 → m154 84 = f155 → 1 ≤ i152 → i152 ≤ 59049 → 0 ≤ i153 → i153 ≤ 10 → (i152 = p3 (i153).toNat) → (i153 ≤ g0) → (10 - i153).toNat < nlp131_156 → zW E (d) 199 131 [(2, 69), (0, a0), (0, i152), (0, i153), (9, 0), (9, 0), (9, 0), (9, 0), (9, 0), (9, 0)] [] m154 Q := by
                        intro nlp131_156
                        induction nlp131_156 with
                        | zero =>
                          intros
                          exact absurd (by assumption : _ < 0) (Nat.not_lt_zero _)
                        | succ nlp131_156 ihlp131_156 =>
                          intro i152 i153 f155 m154 hIm154 hFm154 km154_70_822 km154_70_823 fm154_70 fm154_83 fm154_84 li152 ui152 li153 ui153 hv0lp131_156 hv1lp131_156 hmlp131_156
                          refine zw_3 zr_199_131 rfl ?_
                          refine zw_7 zr_199_132 rfl ?_
                          refine zw_C zr_199_133 (Or.inl rfl) zm_141 rfl rfl ⟨Nat.le_of_ble_eq_true rfl, Nat.le_of_ble_eq_true rfl, Nat.le_of_ble_eq_true rfl, rfl, by decide⟩ (by omega) (P := (fun v m' => zW E (d) 199 136 [(2, 69), (0, a0), (0, i152), (0, i153), (9, 0), (9, 0), (9, 0), (9, 0), (9, 0), (9, 0)] (if v.1 = 9 then [(0, i153)] else v :: [(0, i153)]) m' Q)) ?_ (fun _ _ h => h)
                          generalize hQ1 : (fun v m' => zW E (d) 199 136 [(2, 69), (0, a0), (0, i152), (0, i153), (9, 0), (9, 0), (9, 0), (9, 0), (9, 0), (9, 0)] (if v.1 = 9 then [(0, i153)] else v :: [(0, i153)]) m' Q) = Q1
                          show zW E (d - 1) 141 0 [(2, 69)] [] m154 Q1
                          refine zw_7 zr_141_0 rfl ?_
                          refine zw_46r (s := 70) zr_141_1 rfl rfl rfl rfl ?_
                          refine zw_push zr_141_4 ?_
                          refine zw_48k (c := 70) (len := 826) zr_141_7 rfl rfl (by omega) (by omega) (show (822 : Int).toNat = 822 by omega) km154_70_822 ?_
                          refine zw_R zr_141_8 (by decide) zm_141 (v := (0, g0)) rfl ?_
                          rw [← hQ1]
                          show zW E (d) 199 136 [(2, 69), (0, a0), (0, i152), (0, i153), (9, 0), (9, 0), (9, 0), (9, 0), (9, 0), (9, 0)] [(0, g0), (0, i153)] m154 Q
                          refine zw_41_3 zr_199_136 ?_ ?_
                          · intro h158
                            have hR : i152 = p3 g0.toNat := by have z := hv0lp131_156; rw [show (i153).toNat = g0.toNat by omega] at z; exact z
                            refine zw_push zr_199_149 ?_
                            refine zw_9 (L' := [(2, 69), (0, a0), (0, i152), (0, 0), (9, 0), (9, 0), (9, 0), (9, 0), (9, 0), (9, 0)]) zr_199_150 (Nat.le_of_ble_eq_true rfl) rfl ?_
                            refine zw_push zr_199_151 ?_
                            refine zw_10 (L' := [(2, 69), (0, a0), (0, i152), (0, 0), (0, (-1)), (9, 0), (9, 0), (9, 0), (9, 0), (9, 0)]) zr_199_152 (Nat.le_of_ble_eq_true rfl) rfl ?_
                            refine zw_push zr_199_154 ?_
                            refine zw_10 (L' := [(2, 69), (0, a0), (0, i152), (0, 0), (0, (-1)), (0, 0), (9, 0), (9, 0), (9, 0), (9, 0)]) zr_199_155 (Nat.le_of_ble_eq_true rfl) rfl ?_
                            have lp157_165 : ∀ (nlp157_165 : Nat) (i160 i161 i162 : Int) (f164 : Nat → Int) (m163 : zM), zInv m163 → zFr W_199 m0 m163 → m163 70 822 = g0 → m163 70 823 = g1 → m163 70 = F70 → m163 83 = f142 → m163 84 = f164 → 0 ≤ i160 → i160 ≤ 59049 → (-1) ≤ i161 → i161 ≤ 9999 → 0 ≤ i162 → i162 ≤ 59049 → (zWw f142 g0 i162 i160 i161) → (i162 ≤ i152) → (59049 - i162).toNat < nlp157_165 → zW E (d) 199 157 [(2, 69), (0, a0), (0, i152), (0, i160), (0, i161), (0, i162), (9, 0), (9, 0), (9, 0), (9, 0)] [] m163 Q := by
                              intro nlp157_165
                              induction nlp157_165 with
                              | zero =>
                                intros
                                exact absurd (by assumption : _ < 0) (Nat.not_lt_zero _)
                              | succ nlp157_165 ihlp157_165 =>
                                intro i160 i161 i162 f164 m163 hIm163 hFm163 km163_70_822 km163_70_823 fm163_70 fm163_83 fm163_84 li160 ui160 li161 ui161 li162 ui162 hv0lp157_165 hv1lp157_165 hmlp157_165
                                refine zw_4 zr_199_157 rfl ?_
                                refine zw_3 zr_199_159 rfl ?_
                                refine zw_41_3 zr_199_160 ?_ ?_
                                · intro h167
                                  refine zw_3 zr_199_321 rfl ?_
                                  refine zw_push zr_199_322 ?_
                                  refine zw_41_4 zr_199_323 ?_ ?_
                                  · intro h168
                                    refine zw_7 zr_199_329 rfl ?_
                                    refine zw_C zr_199_330 (Or.inl rfl) zm_141 rfl rfl ⟨Nat.le_of_ble_eq_true rfl, Nat.le_of_ble_eq_true rfl, Nat.le_of_ble_eq_true rfl, rfl, by decide⟩ (by omega) (P := (fun v m' => zW E (d) 199 333 [(2, 69), (0, a0), (0, i152), (0, i160), (0, i161), (0, i162), (9, 0), (9, 0), (9, 0), (9, 0)] (if v.1 = 9 then [] else v :: []) m' Q)) ?_ (fun _ _ h => h)
                                    generalize hQ1 : (fun v m' => zW E (d) 199 333 [(2, 69), (0, a0), (0, i152), (0, i160), (0, i161), (0, i162), (9, 0), (9, 0), (9, 0), (9, 0)] (if v.1 = 9 then [] else v :: []) m' Q) = Q1
                                    show zW E (d - 1) 141 0 [(2, 69)] [] m163 Q1
                                    refine zw_7 zr_141_0 rfl ?_
                                    refine zw_46r (s := 70) zr_141_1 rfl rfl rfl rfl ?_
                                    refine zw_push zr_141_4 ?_
                                    refine zw_48k (c := 70) (len := 826) zr_141_7 rfl rfl (by omega) (by omega) (show (822 : Int).toNat = 822 by omega) km163_70_822 ?_
                                    refine zw_R zr_141_8 (by decide) zm_141 (v := (0, g0)) rfl ?_
                                    rw [← hQ1]
                                    show zW E (d) 199 333 [(2, 69), (0, a0), (0, i152), (0, i160), (0, i161), (0, i162), (9, 0), (9, 0), (9, 0), (9, 0)] [(0, g0)] m163 Q
                                    refine zw_push zr_199_333 ?_
                                    refine zw_17 zr_199_334 (by omega) ?_
                                    refine zw_10 (L' := [(2, 69), (0, a0), (0, i152), (0, i160), (0, i161), (0, (g0 - 1)), (9, 0), (9, 0), (9, 0), (9, 0)]) zr_199_335 (Nat.le_of_ble_eq_true rfl) rfl ?_
                                    have lp337_171 : ∀ (nlp337_171 : Nat) (i169 i170 : Int), 0 ≤ i169 → i169 ≤ 59049 → 0 ≤ i170 → i170 ≤ 9 → (zWe f142 g0 i169 i170) → (a0 ≤ i170 ∧ i170 < g0) → (i170 - 0).toNat < nlp337_171 → zW E (d) 199 337 [(2, 69), (0, a0), (0, i152), (0, i169), (0, i161), (0, i170), (9, 0), (9, 0), (9, 0), (9, 0)] [] m163 Q := by
                                      intro nlp337_171
                                      induction nlp337_171 with
                                      | zero =>
                                        intros
                                        exact absurd (by assumption : _ < 0) (Nat.not_lt_zero _)
                                      | succ nlp337_171 ihlp337_171 =>
                                        intro i169 i170 li169 ui169 li170 ui170 hv0lp337_171 hv1lp337_171 hmlp337_171
                                        refine zw_4 zr_199_337 rfl ?_
                                        refine zw_3 zr_199_339 rfl ?_
                                        refine zw_41_5 zr_199_340 ?_ ?_
                                        · intro h173
                                          refine zw_3 zr_199_353 rfl ?_
                                          refine zw_push zr_199_354 ?_
                                          refine zw_20 zr_199_355 (by omega) (by omega) (by omega) (by omega) ?_
                                          refine zw_R zr_199_356 (by decide) zm_199 (v := (0, (i169 % 3))) rfl ?_
                                          rw [← hQ]; exact ⟨_, rfl, by omega, by omega, hIm163, hFm163, by first | exact ⟨_, zWu_i, Or.inl ⟨rfl, by omega⟩⟩ | exact ⟨_, hU, zWa_m hv0lp157_165 (by omega) (by omega) (by omega) rfl⟩ | exact ⟨_, hU, zWe_e hv0lp337_171 (by omega) (by omega) rfl⟩⟩
                                        · intro h175
                                          refine zw_3 zr_199_343 rfl ?_
                                          refine zw_push zr_199_344 ?_
                                          refine zw_19 zr_199_345 (by omega) (by omega) (by omega) (by omega) ?_
                                          refine zw_9 (L' := [(2, 69), (0, a0), (0, i152), (0, (i169 / 3)), (0, i161), (0, i170), (9, 0), (9, 0), (9, 0), (9, 0)]) zr_199_346 (Nat.le_of_ble_eq_true rfl) rfl ?_
                                          refine zw_15 (c := (-1)) (L' := [(2, 69), (0, a0), (0, i152), (0, (i169 / 3)), (0, i161), (0, (i170 + (-1))), (9, 0), (9, 0), (9, 0), (9, 0)]) zr_199_347 rfl (by decide) (by omega) rfl ?_
                                          refine zw_42 zr_199_350 ?_
                                          exact zw_less (L := [(2, 69), (0, a0), (0, i152), (0, (i169 / 3)), (0, i161), (0, (i170 + (-1))), (9, 0), (9, 0), (9, 0), (9, 0)]) ⟨Or.inr rfl, Or.inr rfl, Or.inr rfl, Or.inr rfl, Or.inr rfl, Or.inr rfl, Or.inl rfl, Or.inl rfl, Or.inl rfl, Or.inl rfl, trivial⟩ (ihlp337_171 ((i169 / 3)) ((i170 + (-1)))  (by omega) (by omega) (by omega) (by omega) (zWe_s hv0lp337_171 (by omega) (by omega)) (by omega) (by omega))
                                    exact lp337_171 _ (i160) ((g0 - 1))  (by omega) (by omega) (by omega) (by omega) (zWe_0 hv0lp157_165 (by omega) (by omega)) (by omega) (Nat.lt_succ_self _)
                                  · intro h178; omega
                                · intro h179
                                  refine zw_4 zr_199_163 rfl ?_
                                  refine zw_10 (L' := [(2, 69), (0, a0), (0, i152), (0, i160), (0, i161), (0, i162), (0, i162), (9, 0), (9, 0), (9, 0)]) zr_199_165 (Nat.le_of_ble_eq_true rfl) rfl ?_
                                  refine zw_7 zr_199_167 rfl ?_
                                  refine zw_C zr_199_168 (Or.inl rfl) zm_141 rfl rfl ⟨Nat.le_of_ble_eq_true rfl, Nat.le_of_ble_eq_true rfl, Nat.le_of_ble_eq_true rfl, rfl, by decide⟩ (by omega) (P := (fun v m' => zW E (d) 199 171 [(2, 69), (0, a0), (0, i152), (0, i160), (0, i161), (0, i162), (0, i162), (9, 0), (9, 0), (9, 0)] (if v.1 = 9 then [] else v :: []) m' Q)) ?_ (fun _ _ h => h)
                                  generalize hQ1 : (fun v m' => zW E (d) 199 171 [(2, 69), (0, a0), (0, i152), (0, i160), (0, i161), (0, i162), (0, i162), (9, 0), (9, 0), (9, 0)] (if v.1 = 9 then [] else v :: []) m' Q) = Q1
                                  show zW E (d - 1) 141 0 [(2, 69)] [] m163 Q1
                                  refine zw_7 zr_141_0 rfl ?_
                                  refine zw_46r (s := 70) zr_141_1 rfl rfl rfl rfl ?_
                                  refine zw_push zr_141_4 ?_
                                  refine zw_48k (c := 70) (len := 826) zr_141_7 rfl rfl (by omega) (by omega) (show (822 : Int).toNat = 822 by omega) km163_70_822 ?_
                                  refine zw_R zr_141_8 (by decide) zm_141 (v := (0, g0)) rfl ?_
                                  rw [← hQ1]
                                  show zW E (d) 199 171 [(2, 69), (0, a0), (0, i152), (0, i160), (0, i161), (0, i162), (0, i162), (9, 0), (9, 0), (9, 0)] [(0, g0)] m163 Q
                                  refine zw_push zr_199_171 ?_
                                  refine zw_17 zr_199_172 (by omega) ?_
                                  refine zw_10 (L' := [(2, 69), (0, a0), (0, i152), (0, i160), (0, i161), (0, i162), (0, i162), (0, (g0 - 1)), (9, 0), (9, 0)]) zr_199_173 (Nat.le_of_ble_eq_true rfl) rfl ?_
                                  have lp175_184 : ∀ (nlp175_184 : Nat) (i180 i181 : Int) (f183 : Nat → Int) (m182 : zM), zInv m182 → zFr W_199 m0 m182 → m182 70 822 = g0 → m182 70 823 = g1 → m182 70 = F70 → m182 83 = f142 → m182 84 = f183 → 0 ≤ i180 → i180 ≤ 59049 → (-1) ≤ i181 → i181 ≤ 9 → (zDg i162 g0 i180 i181 f183) → (i181 < g0) → (i181 - (-1)).toNat < nlp175_184 → zW E (d) 199 175 [(2, 69), (0, a0), (0, i152), (0, i160), (0, i161), (0, i162), (0, i180), (0, i181), (9, 0), (9, 0)] [] m182 Q := by
                                    intro nlp175_184
                                    induction nlp175_184 with
                                    | zero =>
                                      intros
                                      exact absurd (by assumption : _ < 0) (Nat.not_lt_zero _)
                                    | succ nlp175_184 ihlp175_184 =>
                                      intro i180 i181 f183 m182 hIm182 hFm182 km182_70_822 km182_70_823 fm182_70 fm182_83 fm182_84 li180 ui180 li181 ui181 hv0lp175_184 hv1lp175_184 hmlp175_184
                                      refine zw_4 zr_199_175 rfl ?_
                                      refine zw_40_0 zr_199_177 ?_ ?_
                                      · intro h186
                                        have hV := zDg_e hv0lp175_184 (by omega) (by omega)
                                        refine zw_push zr_199_203 ?_
                                        refine zw_10 (L' := [(2, 69), (0, a0), (0, i152), (0, i160), (0, i161), (0, i162), (0, i180), (0, 0), (9, 0), (9, 0)]) zr_199_204 (Nat.le_of_ble_eq_true rfl) rfl ?_
                                        refine zw_push zr_199_206 ?_
                                        refine zw_10 (L' := [(2, 69), (0, a0), (0, i152), (0, i160), (0, i161), (0, i162), (0, i180), (0, 0), (0, 0), (9, 0)]) zr_199_207 (Nat.le_of_ble_eq_true rfl) rfl ?_
                                        have lp209_190 : ∀ (nlp209_190 : Nat) (i188 i189 : Int), 0 ≤ i188 → i188 ≤ 9999 → 0 ≤ i189 → i189 ≤ 10 → (i188 = wr1 f142 f183 g0.toNat (i189).toNat) → (i188 ≤ 600 * i189 ∧ i189 ≤ g0) → (10 - i189).toNat < nlp209_190 → zW E (d) 199 209 [(2, 69), (0, a0), (0, i152), (0, i160), (0, i161), (0, i162), (0, i180), (0, i188), (0, i189), (9, 0)] [] m182 Q := by
                                          intro nlp209_190
                                          induction nlp209_190 with
                                          | zero =>
                                            intros
                                            exact absurd (by assumption : _ < 0) (Nat.not_lt_zero _)
                                          | succ nlp209_190 ihlp209_190 =>
                                            intro i188 i189 li188 ui188 li189 ui189 hv0lp209_190 hv1lp209_190 hmlp209_190
                                            refine zw_4 zr_199_209 rfl ?_
                                            refine zw_7 zr_199_211 rfl ?_
                                            refine zw_C zr_199_212 (Or.inl rfl) zm_141 rfl rfl ⟨Nat.le_of_ble_eq_true rfl, Nat.le_of_ble_eq_true rfl, Nat.le_of_ble_eq_true rfl, rfl, by decide⟩ (by omega) (P := (fun v m' => zW E (d) 199 215 [(2, 69), (0, a0), (0, i152), (0, i160), (0, i161), (0, i162), (0, i180), (0, i188), (0, i189), (9, 0)] (if v.1 = 9 then [(0, i189)] else v :: [(0, i189)]) m' Q)) ?_ (fun _ _ h => h)
                                            generalize hQ1 : (fun v m' => zW E (d) 199 215 [(2, 69), (0, a0), (0, i152), (0, i160), (0, i161), (0, i162), (0, i180), (0, i188), (0, i189), (9, 0)] (if v.1 = 9 then [(0, i189)] else v :: [(0, i189)]) m' Q) = Q1
                                            show zW E (d - 1) 141 0 [(2, 69)] [] m182 Q1
                                            refine zw_7 zr_141_0 rfl ?_
                                            refine zw_46r (s := 70) zr_141_1 rfl rfl rfl rfl ?_
                                            refine zw_push zr_141_4 ?_
                                            refine zw_48k (c := 70) (len := 826) zr_141_7 rfl rfl (by omega) (by omega) (show (822 : Int).toNat = 822 by omega) km182_70_822 ?_
                                            refine zw_R zr_141_8 (by decide) zm_141 (v := (0, g0)) rfl ?_
                                            rw [← hQ1]
                                            show zW E (d) 199 215 [(2, 69), (0, a0), (0, i152), (0, i160), (0, i161), (0, i162), (0, i180), (0, i188), (0, i189), (9, 0)] [(0, g0), (0, i189)] m182 Q
                                            refine zw_41_3 zr_199_215 ?_ ?_
                                            · intro h192
                                              have hS : i188 = wS f142 f183 g0.toNat := by have z := hv0lp209_190; rw [show (i189).toNat = g0.toNat by omega] at z; exact z
                                              refine zw_4 zr_199_285 rfl ?_
                                              refine zw_4 zr_199_287 rfl ?_
                                              refine zw_41_5 zr_199_289 ?_ ?_
                                              · intro h194
                                                refine zw_3 zr_199_297 rfl ?_
                                                refine zw_9 (L' := [(2, 69), (0, a0), (0, i152), (0, i160), (0, i161), (0, i162), (0, i180), (0, i188), (0, i189), (9, 0)]) zr_199_298 (Nat.le_of_ble_eq_true rfl) rfl ?_
                                                refine zw_4 zr_199_299 rfl ?_
                                                refine zw_4 zr_199_301 rfl ?_
                                                refine zw_41_5 zr_199_303 ?_ ?_
                                                · intro h195
                                                  refine zw_4 zr_199_311 rfl ?_
                                                  refine zw_10 (L' := [(2, 69), (0, a0), (0, i152), (0, i160), (0, i161), (0, i162), (0, i180), (0, i188), (0, i189), (9, 0)]) zr_199_313 (Nat.le_of_ble_eq_true rfl) rfl ?_
                                                  refine zw_15 (c := 1) (L' := [(2, 69), (0, a0), (0, i152), (0, i160), (0, i161), (0, (i162 + 1)), (0, i180), (0, i188), (0, i189), (9, 0)]) zr_199_315 rfl (by decide) (by omega) rfl ?_
                                                  refine zw_42 zr_199_318 ?_
                                                  exact zw_less (L := [(2, 69), (0, a0), (0, i152), (0, i160), (0, i161), (0, (i162 + 1)), (9, 0), (9, 0), (9, 0), (9, 0)]) ⟨Or.inr rfl, Or.inr rfl, Or.inr rfl, Or.inr rfl, Or.inr rfl, Or.inr rfl, Or.inl rfl, Or.inl rfl, Or.inl rfl, Or.inl rfl, trivial⟩ (ihlp157_165 (i160) (i161) ((i162 + 1)) (f183) m182 hIm182 hFm182  km182_70_822 km182_70_823 fm182_70 fm182_83 fm182_84 (by omega) (by omega) (by omega) (by omega) (by omega) (by omega) (zWw_s hv0lp157_165 hV hS (by omega) (by omega)) (by omega) (by omega))
                                                · intro h197
                                                  refine zw_4 zr_199_306 rfl ?_
                                                  refine zw_42 zr_199_308 ?_
                                                  refine zw_10 (L' := [(2, 69), (0, a0), (0, i152), (0, i160), (0, i188), (0, i162), (0, i180), (0, i188), (0, i189), (9, 0)]) zr_199_313 (Nat.le_of_ble_eq_true rfl) rfl ?_
                                                  refine zw_15 (c := 1) (L' := [(2, 69), (0, a0), (0, i152), (0, i160), (0, i188), (0, (i162 + 1)), (0, i180), (0, i188), (0, i189), (9, 0)]) zr_199_315 rfl (by decide) (by omega) rfl ?_
                                                  refine zw_42 zr_199_318 ?_
                                                  exact zw_less (L := [(2, 69), (0, a0), (0, i152), (0, i160), (0, i188), (0, (i162 + 1)), (9, 0), (9, 0), (9, 0), (9, 0)]) ⟨Or.inr rfl, Or.inr rfl, Or.inr rfl, Or.inr rfl, Or.inr rfl, Or.inr rfl, Or.inl rfl, Or.inl rfl, Or.inl rfl, Or.inl rfl, trivial⟩ (ihlp157_165 (i160) (i188) ((i162 + 1)) (f183) m182 hIm182 hFm182  km182_70_822 km182_70_823 fm182_70 fm182_83 fm182_84 (by omega) (by omega) (by omega) (by omega) (by omega) (by omega) (zWw_s hv0lp157_165 hV hS (by omega) (by omega)) (by omega) (by omega))
                                              · intro h199
                                                refine zw_4 zr_199_292 rfl ?_
                                                refine zw_42 zr_199_294 ?_
                                                refine zw_9 (L' := [(2, 69), (0, a0), (0, i152), (0, i162), (0, i161), (0, i162), (0, i180), (0, i188), (0, i189), (9, 0)]) zr_199_298 (Nat.le_of_ble_eq_true rfl) rfl ?_
                                                refine zw_4 zr_199_299 rfl ?_
                                                refine zw_4 zr_199_301 rfl ?_
                                                refine zw_41_5 zr_199_303 ?_ ?_
                                                · intro h200
                                                  refine zw_4 zr_199_311 rfl ?_
                                                  refine zw_10 (L' := [(2, 69), (0, a0), (0, i152), (0, i162), (0, i161), (0, i162), (0, i180), (0, i188), (0, i189), (9, 0)]) zr_199_313 (Nat.le_of_ble_eq_true rfl) rfl ?_
                                                  refine zw_15 (c := 1) (L' := [(2, 69), (0, a0), (0, i152), (0, i162), (0, i161), (0, (i162 + 1)), (0, i180), (0, i188), (0, i189), (9, 0)]) zr_199_315 rfl (by decide) (by omega) rfl ?_
                                                  refine zw_42 zr_199_318 ?_
                                                  exact zw_less (L := [(2, 69), (0, a0), (0, i152), (0, i162), (0, i161), (0, (i162 + 1)), (9, 0), (9, 0), (9, 0), (9, 0)]) ⟨Or.inr rfl, Or.inr rfl, Or.inr rfl, Or.inr rfl, Or.inr rfl, Or.inr rfl, Or.inl rfl, Or.inl rfl, Or.inl rfl, Or.inl rfl, trivial⟩ (ihlp157_165 (i162) (i161) ((i162 + 1)) (f183) m182 hIm182 hFm182  km182_70_822 km182_70_823 fm182_70 fm182_83 fm182_84 (by omega) (by omega) (by omega) (by omega) (by omega) (by omega) (zWw_s hv0lp157_165 hV hS (by omega) (by omega)) (by omega) (by omega))
                                                · intro h202
                                                  refine zw_4 zr_199_306 rfl ?_
                                                  refine zw_42 zr_199_308 ?_
                                                  refine zw_10 (L' := [(2, 69), (0, a0), (0, i152), (0, i162), (0, i188), (0, i162), (0, i180), (0, i188), (0, i189), (9, 0)]) zr_199_313 (Nat.le_of_ble_eq_true rfl) rfl ?_
                                                  refine zw_15 (c := 1) (L' := [(2, 69), (0, a0), (0, i152), (0, i162), (0, i188), (0, (i162 + 1)), (0, i180), (0, i188), (0, i189), (9, 0)]) zr_199_315 rfl (by decide) (by omega) rfl ?_
                                                  refine zw_42 zr_199_318 ?_
                                                  exact zw_less (L := [(2, 69), (0, a0), (0, i152), (0, i162), (0, i188), (0, (i162 + 1)), (9, 0), (9, 0), (9, 0), (9, 0)]) ⟨Or.inr rfl, Or.inr rfl, Or.inr rfl, Or.inr rfl, Or.inr rfl, Or.inr rfl, Or.inl rfl, Or.inl rfl, Or.inl rfl, Or.inl rfl, trivial⟩ (ihlp157_165 (i162) (i188) ((i162 + 1)) (f183) m182 hIm182 hFm182  km182_70_822 km182_70_823 fm182_70 fm182_83 fm182_84 (by omega) (by omega) (by omega) (by omega) (by omega) (by omega) (zWw_s hv0lp157_165 hV hS (by omega) (by omega)) (by omega) (by omega))
                                            · intro h204
                                              refine zw_push zr_199_218 ?_
                                              refine zw_10 (L' := [(2, 69), (0, a0), (0, i152), (0, i160), (0, i161), (0, i162), (0, i180), (0, i188), (0, i189), (0, 0)]) zr_199_219 (Nat.le_of_ble_eq_true rfl) rfl ?_
                                              have lp221_207 : ∀ (nlp221_207 : Nat) (i205 i206 : Int), 0 ≤ i205 → i205 ≤ 9999 → 0 ≤ i206 → i206 ≤ 10 → (i205 = wr1 f142 f183 g0.toNat (i189).toNat + wr2 f142 f183 (i189).toNat (i206).toNat) → (i205 ≤ 600 * i189 + 60 * i206 ∧ i206 ≤ g0) → (10 - i206).toNat < nlp221_207 → zW E (d) 199 221 [(2, 69), (0, a0), (0, i152), (0, i160), (0, i161), (0, i162), (0, i180), (0, i205), (0, i189), (0, i206)] [] m182 Q := by
                                                intro nlp221_207
                                                induction nlp221_207 with
                                                | zero =>
                                                  intros
                                                  exact absurd (by assumption : _ < 0) (Nat.not_lt_zero _)
                                                | succ nlp221_207 ihlp221_207 =>
                                                  intro i205 i206 li205 ui205 li206 ui206 hv0lp221_207 hv1lp221_207 hmlp221_207
                                                  refine zw_4 zr_199_221 rfl ?_
                                                  refine zw_7 zr_199_223 rfl ?_
                                                  refine zw_C zr_199_224 (Or.inl rfl) zm_141 rfl rfl ⟨Nat.le_of_ble_eq_true rfl, Nat.le_of_ble_eq_true rfl, Nat.le_of_ble_eq_true rfl, rfl, by decide⟩ (by omega) (P := (fun v m' => zW E (d) 199 227 [(2, 69), (0, a0), (0, i152), (0, i160), (0, i161), (0, i162), (0, i180), (0, i205), (0, i189), (0, i206)] (if v.1 = 9 then [(0, i206)] else v :: [(0, i206)]) m' Q)) ?_ (fun _ _ h => h)
                                                  generalize hQ1 : (fun v m' => zW E (d) 199 227 [(2, 69), (0, a0), (0, i152), (0, i160), (0, i161), (0, i162), (0, i180), (0, i205), (0, i189), (0, i206)] (if v.1 = 9 then [(0, i206)] else v :: [(0, i206)]) m' Q) = Q1
                                                  show zW E (d - 1) 141 0 [(2, 69)] [] m182 Q1
                                                  refine zw_7 zr_141_0 rfl ?_
                                                  refine zw_46r (s := 70) zr_141_1 rfl rfl rfl rfl ?_
                                                  refine zw_push zr_141_4 ?_
                                                  refine zw_48k (c := 70) (len := 826) zr_141_7 rfl rfl (by omega) (by omega) (show (822 : Int).toNat = 822 by omega) km182_70_822 ?_
                                                  refine zw_R zr_141_8 (by decide) zm_141 (v := (0, g0)) rfl ?_
                                                  rw [← hQ1]
                                                  show zW E (d) 199 227 [(2, 69), (0, a0), (0, i152), (0, i160), (0, i161), (0, i162), (0, i180), (0, i205), (0, i189), (0, i206)] [(0, g0), (0, i206)] m182 Q
                                                  refine zw_41_3 zr_199_227 ?_ ?_
                                                  · intro h209
                                                    have z210 := hv0lp221_207; rw [show (i206).toNat = g0.toNat by omega] at z210
                                                    have z211 := wr1_s f142 f183 g0.toNat (i189) (by omega)
                                                    refine zw_15 (c := 1) (L' := [(2, 69), (0, a0), (0, i152), (0, i160), (0, i161), (0, i162), (0, i180), (0, i205), (0, (i189 + 1)), (0, i206)]) zr_199_279 rfl (by decide) (by omega) rfl ?_
                                                    refine zw_42 zr_199_282 ?_
                                                    exact zw_less (L := [(2, 69), (0, a0), (0, i152), (0, i160), (0, i161), (0, i162), (0, i180), (0, i205), (0, (i189 + 1)), (9, 0)]) ⟨Or.inr rfl, Or.inr rfl, Or.inr rfl, Or.inr rfl, Or.inr rfl, Or.inr rfl, Or.inr rfl, Or.inr rfl, Or.inr rfl, Or.inl rfl, trivial⟩ (ihlp209_190 (i205) ((i189 + 1))  (by omega) (by omega) (by omega) (by omega) (by omega) (by omega) (by omega))
                                                  · intro h212
                                                    refine zw_4 zr_199_230 rfl ?_
                                                    refine zw_7 zr_199_232 rfl ?_
                                                    refine zw_46r (s := 84) zr_199_233 rfl rfl rfl rfl ?_
                                                    refine zw_4 zr_199_236 rfl ?_
                                                    refine zw_48 (c := 84) (len := 10) zr_199_238 rfl rfl (by omega) (by omega) ?_
                                                    intro x213 ex213
                                                    have bx213 := ib_84 hIm182 (k := (i189).toNat) (by omega)
                                                    rw [← ex213] at bx213
                                                    have qx213 : x213 = f183 (i189).toNat := by rw [← fm182_84]; exact ex213
                                                    clear ex213
                                                    have hx := qx213
                                                    refine zw_push zr_199_239 ?_
                                                    refine zw_16 zr_199_240 (by omega) ?_
                                                    refine zw_push zr_199_241 ?_
                                                    refine zw_20 zr_199_242 (by omega) (by omega) (by omega) (by omega) ?_
                                                    refine zw_7 zr_199_243 rfl ?_
                                                    refine zw_46r (s := 84) zr_199_244 rfl rfl rfl rfl ?_
                                                    refine zw_4 zr_199_247 rfl ?_
                                                    refine zw_48 (c := 84) (len := 10) zr_199_249 rfl rfl (by omega) (by omega) ?_
                                                    intro x215 ex215
                                                    have bx215 := ib_84 hIm182 (k := (i206).toNat) (by omega)
                                                    rw [← ex215] at bx215
                                                    have qx215 : x215 = f183 (i206).toNat := by rw [← fm182_84]; exact ex215
                                                    clear ex215
                                                    have z216 := wr2_s (f := f142) (p := i189) (n := i206) (by omega) hx qx215
                                                    refine zw_41_4 zr_199_250 ?_ ?_
                                                    · intro h217
                                                      refine zw_push zr_199_269 ?_
                                                      refine zw_16 zr_199_270 (by omega) ?_
                                                      refine zw_10 (L' := [(2, 69), (0, a0), (0, i152), (0, i160), (0, i161), (0, i162), (0, i180), (0, (i205 + 0)), (0, i189), (0, i206)]) zr_199_271 (Nat.le_of_ble_eq_true rfl) rfl ?_
                                                      refine zw_15 (c := 1) (L' := [(2, 69), (0, a0), (0, i152), (0, i160), (0, i161), (0, i162), (0, i180), (0, (i205 + 0)), (0, i189), (0, (i206 + 1))]) zr_199_273 rfl (by decide) (by omega) rfl ?_
                                                      refine zw_42 zr_199_276 ?_
                                                      exact zw_less (L := [(2, 69), (0, a0), (0, i152), (0, i160), (0, i161), (0, i162), (0, i180), (0, (i205 + 0)), (0, i189), (0, (i206 + 1))]) ⟨Or.inr rfl, Or.inr rfl, Or.inr rfl, Or.inr rfl, Or.inr rfl, Or.inr rfl, Or.inr rfl, Or.inr rfl, Or.inr rfl, Or.inr rfl, trivial⟩ (ihlp221_207 ((i205 + 0)) ((i206 + 1))  (by omega) (by omega) (by omega) (by omega) (by omega) (by omega) (by omega))
                                                    · intro h218
                                                      refine zw_7 zr_199_253 rfl ?_
                                                      refine zw_46r (s := 83) zr_199_254 rfl rfl rfl rfl ?_
                                                      refine zw_push zr_199_257 ?_
                                                      refine zw_4 zr_199_259 rfl ?_
                                                      refine zw_18 zr_199_261 (by omega) ?_
                                                      refine zw_4 zr_199_262 rfl ?_
                                                      refine zw_16 zr_199_264 (by omega) ?_
                                                      refine zw_48 (c := 83) (len := 100) zr_199_265 rfl rfl (by omega) (by omega) ?_
                                                      intro x219 ex219
                                                      have bx219 := ib_83 hIm182 (k := (((10 * i189) + i206)).toNat) (by omega)
                                                      rw [← ex219] at bx219
                                                      have qx219 : x219 = f142 (((10 * i189) + i206)).toNat := by rw [← fm182_83]; exact ex219
                                                      clear ex219
                                                      refine zw_42 zr_199_266 ?_
                                                      refine zw_16 zr_199_270 (by omega) ?_
                                                      refine zw_10 (L' := [(2, 69), (0, a0), (0, i152), (0, i160), (0, i161), (0, i162), (0, i180), (0, (i205 + x219)), (0, i189), (0, i206)]) zr_199_271 (Nat.le_of_ble_eq_true rfl) rfl ?_
                                                      refine zw_15 (c := 1) (L' := [(2, 69), (0, a0), (0, i152), (0, i160), (0, i161), (0, i162), (0, i180), (0, (i205 + x219)), (0, i189), (0, (i206 + 1))]) zr_199_273 rfl (by decide) (by omega) rfl ?_
                                                      refine zw_42 zr_199_276 ?_
                                                      exact zw_less (L := [(2, 69), (0, a0), (0, i152), (0, i160), (0, i161), (0, i162), (0, i180), (0, (i205 + x219)), (0, i189), (0, (i206 + 1))]) ⟨Or.inr rfl, Or.inr rfl, Or.inr rfl, Or.inr rfl, Or.inr rfl, Or.inr rfl, Or.inr rfl, Or.inr rfl, Or.inr rfl, Or.inr rfl, trivial⟩ (ihlp221_207 ((i205 + x219)) ((i206 + 1))  (by omega) (by omega) (by omega) (by omega) (by omega) (by omega) (by omega))
                                              exact lp221_207 _ (i188) (0)  (by omega) (by omega) (by omega) (by omega) (by have z : wr2 f142 f183 (i189).toNat (Int.toNat 0) = 0 := rfl; omega) (by omega) (Nat.lt_succ_self _)
                                        exact lp209_190 _ (0) (0)  (by omega) (by omega) (by omega) (by omega) (by rfl) (by omega) (Nat.lt_succ_self _)
                                      · intro h222
                                        refine zw_7 zr_199_180 rfl ?_
                                        refine zw_46r (s := 84) zr_199_181 rfl rfl rfl rfl ?_
                                        refine zw_4 zr_199_184 rfl ?_
                                        refine zw_4 zr_199_186 rfl ?_
                                        refine zw_push zr_199_188 ?_
                                        refine zw_20 zr_199_189 (by omega) (by omega) (by omega) (by omega) ?_
                                        refine zw_49 (c := 84) (len := 10) zr_199_190 rfl rfl (by omega) (by omega) ?_
                                        intro m223 em223
                                        have hIm223 : zInv m223 := by rw [em223]; exact iu_84 hIm182 (by omega)
                                        have hFm223 : zFr W_199 m0 m223 := by rw [em223]; exact hFm182.any rfl
                                        have km223_70_822 : m223 70 822 = g0 := by rw [em223, zUp_ne (by omega)]; exact km182_70_822
                                        have km223_70_823 : m223 70 823 = g1 := by rw [em223, zUp_ne (by omega)]; exact km182_70_823
                                        have fm223_70 : m223 70 = F70 := by rw [em223, zUp_fn (by decide)]; exact fm182_70
                                        have fm223_83 : m223 83 = f142 := by rw [em223, zUp_fn (by decide)]; exact fm182_83
                                        have fm223_84 : m223 84 = zPt f183 ((i181).toNat) ((i180 % 3)) := by rw [em223]; exact (zUp_ff (m := m182)).trans (congrArg (fun q => zPt q ((i181).toNat) ((i180 % 3))) fm182_84)
                                        clear em223
                                        refine zw_4 zr_199_191 rfl ?_
                                        refine zw_push zr_199_193 ?_
                                        refine zw_19 zr_199_194 (by omega) (by omega) (by omega) (by omega) ?_
                                        refine zw_10 (L' := [(2, 69), (0, a0), (0, i152), (0, i160), (0, i161), (0, i162), (0, (i180 / 3)), (0, i181), (9, 0), (9, 0)]) zr_199_195 (Nat.le_of_ble_eq_true rfl) rfl ?_
                                        refine zw_15 (c := (-1)) (L' := [(2, 69), (0, a0), (0, i152), (0, i160), (0, i161), (0, i162), (0, (i180 / 3)), (0, (i181 + (-1))), (9, 0), (9, 0)]) zr_199_197 rfl (by decide) (by omega) rfl ?_
                                        refine zw_42 zr_199_200 ?_
                                        exact zw_less (L := [(2, 69), (0, a0), (0, i152), (0, i160), (0, i161), (0, i162), (0, (i180 / 3)), (0, (i181 + (-1))), (9, 0), (9, 0)]) ⟨Or.inr rfl, Or.inr rfl, Or.inr rfl, Or.inr rfl, Or.inr rfl, Or.inr rfl, Or.inr rfl, Or.inr rfl, Or.inl rfl, Or.inl rfl, trivial⟩ (ihlp175_184 ((i180 / 3)) ((i181 + (-1))) (zPt f183 ((i181).toNat) ((i180 % 3))) m223 hIm223 hFm223  km223_70_822 km223_70_823 fm223_70 fm223_83 fm223_84 (by omega) (by omega) (by omega) (by omega) (zDg_s hv0lp175_184 (by omega) (by omega)) (by omega) (by omega))
                                  exact lp175_184 _ (i162) ((g0 - 1)) (f164) m163 hIm163 hFm163  km163_70_822 km163_70_823 fm163_70 fm163_83 fm163_84 (by omega) (by omega) (by omega) (by omega) (zDg_0 (by omega) (by omega)) (by omega) (Nat.lt_succ_self _)
                            exact lp157_165 _ (0) ((-1)) (0) (f155) m154 hIm154 hFm154  km154_70_822 km154_70_823 fm154_70 fm154_83 fm154_84 (by omega) (by omega) (by omega) (by omega) (by omega) (by omega) (zWw_0) (by omega) (Nat.lt_succ_self _)
                          · intro h227
                            have z228 := p3_s (n := i153) (P := g0) (by omega)
                            refine zw_3 zr_199_139 rfl ?_
                            refine zw_push zr_199_140 ?_
                            refine zw_18 zr_199_141 (by omega) ?_
                            refine zw_9 (L' := [(2, 69), (0, a0), (0, (i152 * 3)), (0, i153), (9, 0), (9, 0), (9, 0), (9, 0), (9, 0), (9, 0)]) zr_199_142 (Nat.le_of_ble_eq_true rfl) rfl ?_
                            refine zw_15 (c := 1) (L' := [(2, 69), (0, a0), (0, (i152 * 3)), (0, (i153 + 1)), (9, 0), (9, 0), (9, 0), (9, 0), (9, 0), (9, 0)]) zr_199_143 rfl (by decide) (by omega) rfl ?_
                            refine zw_42 zr_199_146 ?_
                            exact zw_less (L := [(2, 69), (0, a0), (0, (i152 * 3)), (0, (i153 + 1)), (9, 0), (9, 0), (9, 0), (9, 0), (9, 0), (9, 0)]) ⟨Or.inr rfl, Or.inr rfl, Or.inr rfl, Or.inr rfl, Or.inl rfl, Or.inl rfl, Or.inl rfl, Or.inl rfl, Or.inl rfl, Or.inl rfl, trivial⟩ (ihlp131_156 ((i152 * 3)) ((i153 + 1)) (f155) m154 hIm154 hFm154  km154_70_822 km154_70_823 fm154_70 fm154_83 fm154_84 (by omega) (by omega) (by omega) (by omega) (by omega) (by omega) (by omega))
                      exact lp131_156 _ (1) (0) (f143) m141 hIm141 hFm141  km141_70_822 km141_70_823 fm141_70 fm141_83 fm141_84 (by omega) (by omega) (by omega) (by omega) (by rfl) (by omega) (Nat.lt_succ_self _)
                    · intro h230
                      refine zw_7 zr_199_47 rfl ?_
                      refine zw_3 zr_199_48 rfl ?_
                      refine zw_push zr_199_49 ?_
                      refine zw_C zr_199_50 (Or.inl rfl) zm_144 rfl rfl ⟨Nat.le_of_ble_eq_true rfl, Nat.le_of_ble_eq_true rfl, Nat.le_of_ble_eq_true rfl, rfl, by decide⟩ (by omega) (P := (fun v m' => zW E (d) 199 53 [(2, 69), (0, a0), (0, i140), (9, 0), (9, 0), (9, 0), (9, 0), (9, 0), (9, 0), (9, 0)] (if v.1 = 9 then [] else v :: []) m' Q)) ?_ (fun _ _ h => h)
                      generalize hQ1 : (fun v m' => zW E (d) 199 53 [(2, 69), (0, a0), (0, i140), (9, 0), (9, 0), (9, 0), (9, 0), (9, 0), (9, 0), (9, 0)] (if v.1 = 9 then [] else v :: []) m' Q) = Q1
                      show zW E (d - 1) 144 0 [(2, 69), (0, i140), (0, 4)] [] m141 Q1
                      refine zw_7 zr_144_0 rfl ?_
                      refine zw_46r (s := 70) zr_144_1 rfl rfl rfl rfl ?_
                      refine zw_push zr_144_4 ?_
                      refine zw_push zr_144_6 ?_
                      refine zw_3 zr_144_8 rfl ?_
                      refine zw_18 zr_144_9 (by omega) ?_
                      refine zw_16 zr_144_10 (by omega) ?_
                      refine zw_3 zr_144_11 rfl ?_
                      refine zw_16 zr_144_12 (by omega) ?_
                      refine zw_48 (c := 70) (len := 826) zr_144_13 rfl rfl (by omega) (by omega) ?_
                      intro x231 ex231
                      have bx231 := ib_70_m4 hIm141 (k := (((90 + (6 * i140)) + 4)).toNat) (by omega)
                      rw [← ex231] at bx231
                      have qx231 : x231 = F70 (((90 + (6 * i140)) + 4)).toNat := by rw [← fm141_70]; exact ex231
                      refine zw_R zr_144_14 (by decide) zm_144 (v := (0, x231)) rfl ?_
                      rw [← hQ1]
                      show zW E (d) 199 53 [(2, 69), (0, a0), (0, i140), (9, 0), (9, 0), (9, 0), (9, 0), (9, 0), (9, 0), (9, 0)] [(0, x231)] m141 Q
                      refine zw_40_4 zr_199_53 ?_ ?_
                      · intro h232
                        refine zw_15 (c := 1) (L' := [(2, 69), (0, a0), (0, (i140 + 1)), (9, 0), (9, 0), (9, 0), (9, 0), (9, 0), (9, 0), (9, 0)]) zr_199_121 rfl (by decide) (by omega) rfl ?_
                        refine zw_42 zr_199_124 ?_
                        exact zw_less (L := [(2, 69), (0, a0), (0, (i140 + 1)), (9, 0), (9, 0), (9, 0), (9, 0), (9, 0), (9, 0), (9, 0)]) ⟨Or.inr rfl, Or.inr rfl, Or.inr rfl, Or.inl rfl, Or.inl rfl, Or.inl rfl, Or.inl rfl, Or.inl rfl, Or.inl rfl, Or.inl rfl, trivial⟩ (ihlp39_144 ((i140 + 1)) (f142) (f143) m141 hIm141 hFm141  km141_70_822 km141_70_823 fm141_70 fm141_83 fm141_84 (by omega) (by omega) (by first | exact zWu_skip hv0lp39_144 (by omega) (by omega) | exact zWu_put hv0lp39_144 (by omega) (by omega) (by omega) (by omega) (by omega) hx) (by omega) (by omega))
                      · intro h234
                        refine zw_7 zr_199_56 rfl ?_
                        refine zw_3 zr_199_57 rfl ?_
                        refine zw_push zr_199_58 ?_
                        refine zw_C zr_199_59 (Or.inl rfl) zm_144 rfl rfl ⟨Nat.le_of_ble_eq_true rfl, Nat.le_of_ble_eq_true rfl, Nat.le_of_ble_eq_true rfl, rfl, by decide⟩ (by omega) (P := (fun v m' => zW E (d) 199 62 [(2, 69), (0, a0), (0, i140), (9, 0), (9, 0), (9, 0), (9, 0), (9, 0), (9, 0), (9, 0)] (if v.1 = 9 then [] else v :: []) m' Q)) ?_ (fun _ _ h => h)
                        generalize hQ1 : (fun v m' => zW E (d) 199 62 [(2, 69), (0, a0), (0, i140), (9, 0), (9, 0), (9, 0), (9, 0), (9, 0), (9, 0), (9, 0)] (if v.1 = 9 then [] else v :: []) m' Q) = Q1
                        show zW E (d - 1) 144 0 [(2, 69), (0, i140), (0, 3)] [] m141 Q1
                        refine zw_7 zr_144_0 rfl ?_
                        refine zw_46r (s := 70) zr_144_1 rfl rfl rfl rfl ?_
                        refine zw_push zr_144_4 ?_
                        refine zw_push zr_144_6 ?_
                        refine zw_3 zr_144_8 rfl ?_
                        refine zw_18 zr_144_9 (by omega) ?_
                        refine zw_16 zr_144_10 (by omega) ?_
                        refine zw_3 zr_144_11 rfl ?_
                        refine zw_16 zr_144_12 (by omega) ?_
                        refine zw_48 (c := 70) (len := 826) zr_144_13 rfl rfl (by omega) (by omega) ?_
                        intro x235 ex235
                        have bx235 := ib_70_m3 hIm141 (k := (((90 + (6 * i140)) + 3)).toNat) (by omega)
                        rw [← ex235] at bx235
                        have qx235 : x235 = F70 (((90 + (6 * i140)) + 3)).toNat := by rw [← fm141_70]; exact ex235
                        refine zw_R zr_144_14 (by decide) zm_144 (v := (0, x235)) rfl ?_
                        rw [← hQ1]
                        show zW E (d) 199 62 [(2, 69), (0, a0), (0, i140), (9, 0), (9, 0), (9, 0), (9, 0), (9, 0), (9, 0), (9, 0)] [(0, x235)] m141 Q
                        refine zw_push zr_199_62 ?_
                        refine zw_41_1 zr_199_63 ?_ ?_
                        · intro h236
                          refine zw_15 (c := 1) (L' := [(2, 69), (0, a0), (0, (i140 + 1)), (9, 0), (9, 0), (9, 0), (9, 0), (9, 0), (9, 0), (9, 0)]) zr_199_121 rfl (by decide) (by omega) rfl ?_
                          refine zw_42 zr_199_124 ?_
                          exact zw_less (L := [(2, 69), (0, a0), (0, (i140 + 1)), (9, 0), (9, 0), (9, 0), (9, 0), (9, 0), (9, 0), (9, 0)]) ⟨Or.inr rfl, Or.inr rfl, Or.inr rfl, Or.inl rfl, Or.inl rfl, Or.inl rfl, Or.inl rfl, Or.inl rfl, Or.inl rfl, Or.inl rfl, trivial⟩ (ihlp39_144 ((i140 + 1)) (f142) (f143) m141 hIm141 hFm141  km141_70_822 km141_70_823 fm141_70 fm141_83 fm141_84 (by omega) (by omega) (by first | exact zWu_skip hv0lp39_144 (by omega) (by omega) | exact zWu_put hv0lp39_144 (by omega) (by omega) (by omega) (by omega) (by omega) hx) (by omega) (by omega))
                        · intro h238
                          refine zw_7 zr_199_66 rfl ?_
                          refine zw_3 zr_199_67 rfl ?_
                          refine zw_push zr_199_68 ?_
                          refine zw_C zr_199_69 (Or.inl rfl) zm_144 rfl rfl ⟨Nat.le_of_ble_eq_true rfl, Nat.le_of_ble_eq_true rfl, Nat.le_of_ble_eq_true rfl, rfl, by decide⟩ (by omega) (P := (fun v m' => zW E (d) 199 72 [(2, 69), (0, a0), (0, i140), (9, 0), (9, 0), (9, 0), (9, 0), (9, 0), (9, 0), (9, 0)] (if v.1 = 9 then [] else v :: []) m' Q)) ?_ (fun _ _ h => h)
                          generalize hQ1 : (fun v m' => zW E (d) 199 72 [(2, 69), (0, a0), (0, i140), (9, 0), (9, 0), (9, 0), (9, 0), (9, 0), (9, 0), (9, 0)] (if v.1 = 9 then [] else v :: []) m' Q) = Q1
                          show zW E (d - 1) 144 0 [(2, 69), (0, i140), (0, 3)] [] m141 Q1
                          refine zw_7 zr_144_0 rfl ?_
                          refine zw_46r (s := 70) zr_144_1 rfl rfl rfl rfl ?_
                          refine zw_push zr_144_4 ?_
                          refine zw_push zr_144_6 ?_
                          refine zw_3 zr_144_8 rfl ?_
                          refine zw_18 zr_144_9 (by omega) ?_
                          refine zw_16 zr_144_10 (by omega) ?_
                          refine zw_3 zr_144_11 rfl ?_
                          refine zw_16 zr_144_12 (by omega) ?_
                          refine zw_48k (c := 70) (len := 826) zr_144_13 rfl rfl (by omega) (by omega) rfl ex235.symm ?_
                          refine zw_R zr_144_14 (by decide) zm_144 (v := (0, x235)) rfl ?_
                          rw [← hQ1]
                          show zW E (d) 199 72 [(2, 69), (0, a0), (0, i140), (9, 0), (9, 0), (9, 0), (9, 0), (9, 0), (9, 0), (9, 0)] [(0, x235)] m141 Q
                          refine zw_push zr_199_72 ?_
                          refine zw_41_4 zr_199_73 ?_ ?_
                          · intro h239
                            refine zw_7 zr_199_85 rfl ?_
                            refine zw_3 zr_199_86 rfl ?_
                            refine zw_push zr_199_87 ?_
                            refine zw_C zr_199_88 (Or.inl rfl) zm_144 rfl rfl ⟨Nat.le_of_ble_eq_true rfl, Nat.le_of_ble_eq_true rfl, Nat.le_of_ble_eq_true rfl, rfl, by decide⟩ (by omega) (P := (fun v m' => zW E (d) 199 91 [(2, 69), (0, a0), (0, i140), (9, 0), (9, 0), (9, 0), (9, 0), (9, 0), (9, 0), (9, 0)] (if v.1 = 9 then [] else v :: []) m' Q)) ?_ (fun _ _ h => h)
                            generalize hQ1 : (fun v m' => zW E (d) 199 91 [(2, 69), (0, a0), (0, i140), (9, 0), (9, 0), (9, 0), (9, 0), (9, 0), (9, 0), (9, 0)] (if v.1 = 9 then [] else v :: []) m' Q) = Q1
                            show zW E (d - 1) 144 0 [(2, 69), (0, i140), (0, 2)] [] m141 Q1
                            refine zw_7 zr_144_0 rfl ?_
                            refine zw_46r (s := 70) zr_144_1 rfl rfl rfl rfl ?_
                            refine zw_push zr_144_4 ?_
                            refine zw_push zr_144_6 ?_
                            refine zw_3 zr_144_8 rfl ?_
                            refine zw_18 zr_144_9 (by omega) ?_
                            refine zw_16 zr_144_10 (by omega) ?_
                            refine zw_3 zr_144_11 rfl ?_
                            refine zw_16 zr_144_12 (by omega) ?_
                            refine zw_48 (c := 70) (len := 826) zr_144_13 rfl rfl (by omega) (by omega) ?_
                            intro x240 ex240
                            have bx240 := ib_70_m2 hIm141 (k := (((90 + (6 * i140)) + 2)).toNat) (by omega)
                            rw [← ex240] at bx240
                            have qx240 : x240 = F70 (((90 + (6 * i140)) + 2)).toNat := by rw [← fm141_70]; exact ex240
                            refine zw_R zr_144_14 (by decide) zm_144 (v := (0, x240)) rfl ?_
                            rw [← hQ1]
                            show zW E (d) 199 91 [(2, 69), (0, a0), (0, i140), (9, 0), (9, 0), (9, 0), (9, 0), (9, 0), (9, 0), (9, 0)] [(0, x240)] m141 Q
                            refine zw_9 (L' := [(2, 69), (0, a0), (0, i140), (0, x240), (9, 0), (9, 0), (9, 0), (9, 0), (9, 0), (9, 0)]) zr_199_91 (Nat.le_of_ble_eq_true rfl) rfl ?_
                            refine zw_7 zr_199_92 rfl ?_
                            refine zw_46r (s := 83) zr_199_93 rfl rfl rfl rfl ?_
                            refine zw_push zr_199_96 ?_
                            refine zw_3 zr_199_98 rfl ?_
                            refine zw_18 zr_199_99 (by omega) ?_
                            refine zw_7 zr_199_100 rfl ?_
                            refine zw_3 zr_199_101 rfl ?_
                            refine zw_push zr_199_102 ?_
                            refine zw_C zr_199_103 (Or.inl rfl) zm_144 rfl rfl ⟨Nat.le_of_ble_eq_true rfl, Nat.le_of_ble_eq_true rfl, Nat.le_of_ble_eq_true rfl, rfl, by decide⟩ (by omega) (P := (fun v m' => zW E (d) 199 106 [(2, 69), (0, a0), (0, i140), (0, x240), (9, 0), (9, 0), (9, 0), (9, 0), (9, 0), (9, 0)] (if v.1 = 9 then [(0, (10 * x240)), (2, 83)] else v :: [(0, (10 * x240)), (2, 83)]) m' Q)) ?_ (fun _ _ h => h)
                            generalize hQ1 : (fun v m' => zW E (d) 199 106 [(2, 69), (0, a0), (0, i140), (0, x240), (9, 0), (9, 0), (9, 0), (9, 0), (9, 0), (9, 0)] (if v.1 = 9 then [(0, (10 * x240)), (2, 83)] else v :: [(0, (10 * x240)), (2, 83)]) m' Q) = Q1
                            show zW E (d - 1) 144 0 [(2, 69), (0, i140), (0, 1)] [] m141 Q1
                            refine zw_7 zr_144_0 rfl ?_
                            refine zw_46r (s := 70) zr_144_1 rfl rfl rfl rfl ?_
                            refine zw_push zr_144_4 ?_
                            refine zw_push zr_144_6 ?_
                            refine zw_3 zr_144_8 rfl ?_
                            refine zw_18 zr_144_9 (by omega) ?_
                            refine zw_16 zr_144_10 (by omega) ?_
                            refine zw_3 zr_144_11 rfl ?_
                            refine zw_16 zr_144_12 (by omega) ?_
                            refine zw_48 (c := 70) (len := 826) zr_144_13 rfl rfl (by omega) (by omega) ?_
                            intro x241 ex241
                            have bx241 := ib_70_m1 hIm141 (k := (((90 + (6 * i140)) + 1)).toNat) (by omega)
                            rw [← ex241] at bx241
                            have qx241 : x241 = F70 (((90 + (6 * i140)) + 1)).toNat := by rw [← fm141_70]; exact ex241
                            refine zw_R zr_144_14 (by decide) zm_144 (v := (0, x241)) rfl ?_
                            rw [← hQ1]
                            show zW E (d) 199 106 [(2, 69), (0, a0), (0, i140), (0, x240), (9, 0), (9, 0), (9, 0), (9, 0), (9, 0), (9, 0)] [(0, x241), (0, (10 * x240)), (2, 83)] m141 Q
                            refine zw_16 zr_199_106 (by omega) ?_
                            refine zw_7 zr_199_107 rfl ?_
                            refine zw_3 zr_199_108 rfl ?_
                            refine zw_push zr_199_109 ?_
                            refine zw_C zr_199_110 (Or.inl rfl) zm_144 rfl rfl ⟨Nat.le_of_ble_eq_true rfl, Nat.le_of_ble_eq_true rfl, Nat.le_of_ble_eq_true rfl, rfl, by decide⟩ (by omega) (P := (fun v m' => zW E (d) 199 113 [(2, 69), (0, a0), (0, i140), (0, x240), (9, 0), (9, 0), (9, 0), (9, 0), (9, 0), (9, 0)] (if v.1 = 9 then [(0, ((10 * x240) + x241)), (2, 83)] else v :: [(0, ((10 * x240) + x241)), (2, 83)]) m' Q)) ?_ (fun _ _ h => h)
                            generalize hQ1 : (fun v m' => zW E (d) 199 113 [(2, 69), (0, a0), (0, i140), (0, x240), (9, 0), (9, 0), (9, 0), (9, 0), (9, 0), (9, 0)] (if v.1 = 9 then [(0, ((10 * x240) + x241)), (2, 83)] else v :: [(0, ((10 * x240) + x241)), (2, 83)]) m' Q) = Q1
                            show zW E (d - 1) 144 0 [(2, 69), (0, i140), (0, 2)] [] m141 Q1
                            refine zw_7 zr_144_0 rfl ?_
                            refine zw_46r (s := 70) zr_144_1 rfl rfl rfl rfl ?_
                            refine zw_push zr_144_4 ?_
                            refine zw_push zr_144_6 ?_
                            refine zw_3 zr_144_8 rfl ?_
                            refine zw_18 zr_144_9 (by omega) ?_
                            refine zw_16 zr_144_10 (by omega) ?_
                            refine zw_3 zr_144_11 rfl ?_
                            refine zw_16 zr_144_12 (by omega) ?_
                            refine zw_48k (c := 70) (len := 826) zr_144_13 rfl rfl (by omega) (by omega) rfl ex240.symm ?_
                            refine zw_R zr_144_14 (by decide) zm_144 (v := (0, x240)) rfl ?_
                            rw [← hQ1]
                            show zW E (d) 199 113 [(2, 69), (0, a0), (0, i140), (0, x240), (9, 0), (9, 0), (9, 0), (9, 0), (9, 0), (9, 0)] [(0, x240), (0, ((10 * x240) + x241)), (2, 83)] m141 Q
                            refine zw_16 zr_199_113 (by omega) ?_
                            refine zw_3 zr_199_114 rfl ?_
                            refine zw_17 zr_199_115 (by omega) ?_
                            refine zw_45 zr_199_116 ⟨rfl, rfl⟩ ?_
                            refine zw_48 (c := 83) (len := 100) zr_199_117 rfl rfl (by omega) (by omega) ?_
                            intro x242 ex242
                            have bx242 := ib_83 hIm141 (k := (((((10 * x240) + x241) + x240) - x240)).toNat) (by omega)
                            rw [← ex242] at bx242
                            have qx242 : x242 = f142 (((((10 * x240) + x241) + x240) - x240)).toNat := by rw [← fm141_83]; exact ex242
                            clear ex242
                            have hx := qx242
                            have z244 : x242 ≤ i140 := by rw [qx242]; exact zWu_le hv0lp39_144 (by omega) (by omega)
                            refine zw_push zr_199_118 ?_
                            refine zw_16 zr_199_119 (by omega) ?_
                            refine zw_49 (c := 83) (len := 100) zr_199_120 rfl rfl (by omega) (by omega) ?_
                            intro m245 em245
                            have hIm245 : zInv m245 := by rw [em245]; exact iu_83 hIm141 (by omega)
                            have hFm245 : zFr W_199 m0 m245 := by rw [em245]; exact hFm141.any rfl
                            have km245_70_822 : m245 70 822 = g0 := by rw [em245, zUp_ne (by omega)]; exact km141_70_822
                            have km245_70_823 : m245 70 823 = g1 := by rw [em245, zUp_ne (by omega)]; exact km141_70_823
                            have fm245_70 : m245 70 = F70 := by rw [em245, zUp_fn (by decide)]; exact fm141_70
                            have fm245_83 : m245 83 = zPt f142 ((((((10 * x240) + x241) + x240) - x240)).toNat) ((x242 + 1)) := by rw [em245]; exact (zUp_ff (m := m141)).trans (congrArg (fun q => zPt q ((((((10 * x240) + x241) + x240) - x240)).toNat) ((x242 + 1))) fm141_83)
                            have fm245_84 : m245 84 = f143 := by rw [em245, zUp_fn (by decide)]; exact fm141_84
                            clear em245
                            refine zw_15 (c := 1) (L' := [(2, 69), (0, a0), (0, (i140 + 1)), (0, x240), (9, 0), (9, 0), (9, 0), (9, 0), (9, 0), (9, 0)]) zr_199_121 rfl (by decide) (by omega) rfl ?_
                            refine zw_42 zr_199_124 ?_
                            exact zw_less (L := [(2, 69), (0, a0), (0, (i140 + 1)), (9, 0), (9, 0), (9, 0), (9, 0), (9, 0), (9, 0), (9, 0)]) ⟨Or.inr rfl, Or.inr rfl, Or.inr rfl, Or.inl rfl, Or.inl rfl, Or.inl rfl, Or.inl rfl, Or.inl rfl, Or.inl rfl, Or.inl rfl, trivial⟩ (ihlp39_144 ((i140 + 1)) (zPt f142 ((((((10 * x240) + x241) + x240) - x240)).toNat) ((x242 + 1))) (f143) m245 hIm245 hFm245  km245_70_822 km245_70_823 fm245_70 fm245_83 fm245_84 (by omega) (by omega) (by first | exact zWu_skip hv0lp39_144 (by omega) (by omega) | exact zWu_put hv0lp39_144 (by omega) (by omega) (by omega) (by omega) (by omega) hx) (by omega) (by omega))
                          · intro h247
                            refine zw_7 zr_199_76 rfl ?_
                            refine zw_3 zr_199_77 rfl ?_
                            refine zw_push zr_199_78 ?_
                            refine zw_C zr_199_79 (Or.inl rfl) zm_144 rfl rfl ⟨Nat.le_of_ble_eq_true rfl, Nat.le_of_ble_eq_true rfl, Nat.le_of_ble_eq_true rfl, rfl, by decide⟩ (by omega) (P := (fun v m' => zW E (d) 199 82 [(2, 69), (0, a0), (0, i140), (9, 0), (9, 0), (9, 0), (9, 0), (9, 0), (9, 0), (9, 0)] (if v.1 = 9 then [] else v :: []) m' Q)) ?_ (fun _ _ h => h)
                            generalize hQ1 : (fun v m' => zW E (d) 199 82 [(2, 69), (0, a0), (0, i140), (9, 0), (9, 0), (9, 0), (9, 0), (9, 0), (9, 0), (9, 0)] (if v.1 = 9 then [] else v :: []) m' Q) = Q1
                            show zW E (d - 1) 144 0 [(2, 69), (0, i140), (0, 1)] [] m141 Q1
                            refine zw_7 zr_144_0 rfl ?_
                            refine zw_46r (s := 70) zr_144_1 rfl rfl rfl rfl ?_
                            refine zw_push zr_144_4 ?_
                            refine zw_push zr_144_6 ?_
                            refine zw_3 zr_144_8 rfl ?_
                            refine zw_18 zr_144_9 (by omega) ?_
                            refine zw_16 zr_144_10 (by omega) ?_
                            refine zw_3 zr_144_11 rfl ?_
                            refine zw_16 zr_144_12 (by omega) ?_
                            refine zw_48 (c := 70) (len := 826) zr_144_13 rfl rfl (by omega) (by omega) ?_
                            intro x248 ex248
                            have bx248 := ib_70_m1 hIm141 (k := (((90 + (6 * i140)) + 1)).toNat) (by omega)
                            rw [← ex248] at bx248
                            have qx248 : x248 = F70 (((90 + (6 * i140)) + 1)).toNat := by rw [← fm141_70]; exact ex248
                            refine zw_R zr_144_14 (by decide) zm_144 (v := (0, x248)) rfl ?_
                            rw [← hQ1]
                            show zW E (d) 199 82 [(2, 69), (0, a0), (0, i140), (9, 0), (9, 0), (9, 0), (9, 0), (9, 0), (9, 0), (9, 0)] [(0, x248)] m141 Q
                            refine zw_42 zr_199_82 ?_
                            refine zw_9 (L' := [(2, 69), (0, a0), (0, i140), (0, x248), (9, 0), (9, 0), (9, 0), (9, 0), (9, 0), (9, 0)]) zr_199_91 (Nat.le_of_ble_eq_true rfl) rfl ?_
                            refine zw_7 zr_199_92 rfl ?_
                            refine zw_46r (s := 83) zr_199_93 rfl rfl rfl rfl ?_
                            refine zw_push zr_199_96 ?_
                            refine zw_3 zr_199_98 rfl ?_
                            refine zw_18 zr_199_99 (by omega) ?_
                            refine zw_7 zr_199_100 rfl ?_
                            refine zw_3 zr_199_101 rfl ?_
                            refine zw_push zr_199_102 ?_
                            refine zw_C zr_199_103 (Or.inl rfl) zm_144 rfl rfl ⟨Nat.le_of_ble_eq_true rfl, Nat.le_of_ble_eq_true rfl, Nat.le_of_ble_eq_true rfl, rfl, by decide⟩ (by omega) (P := (fun v m' => zW E (d) 199 106 [(2, 69), (0, a0), (0, i140), (0, x248), (9, 0), (9, 0), (9, 0), (9, 0), (9, 0), (9, 0)] (if v.1 = 9 then [(0, (10 * x248)), (2, 83)] else v :: [(0, (10 * x248)), (2, 83)]) m' Q)) ?_ (fun _ _ h => h)
                            generalize hQ1 : (fun v m' => zW E (d) 199 106 [(2, 69), (0, a0), (0, i140), (0, x248), (9, 0), (9, 0), (9, 0), (9, 0), (9, 0), (9, 0)] (if v.1 = 9 then [(0, (10 * x248)), (2, 83)] else v :: [(0, (10 * x248)), (2, 83)]) m' Q) = Q1
                            show zW E (d - 1) 144 0 [(2, 69), (0, i140), (0, 1)] [] m141 Q1
                            refine zw_7 zr_144_0 rfl ?_
                            refine zw_46r (s := 70) zr_144_1 rfl rfl rfl rfl ?_
                            refine zw_push zr_144_4 ?_
                            refine zw_push zr_144_6 ?_
                            refine zw_3 zr_144_8 rfl ?_
                            refine zw_18 zr_144_9 (by omega) ?_
                            refine zw_16 zr_144_10 (by omega) ?_
                            refine zw_3 zr_144_11 rfl ?_
                            refine zw_16 zr_144_12 (by omega) ?_
                            refine zw_48k (c := 70) (len := 826) zr_144_13 rfl rfl (by omega) (by omega) rfl ex248.symm ?_
                            refine zw_R zr_144_14 (by decide) zm_144 (v := (0, x248)) rfl ?_
                            rw [← hQ1]
                            show zW E (d) 199 106 [(2, 69), (0, a0), (0, i140), (0, x248), (9, 0), (9, 0), (9, 0), (9, 0), (9, 0), (9, 0)] [(0, x248), (0, (10 * x248)), (2, 83)] m141 Q
                            refine zw_16 zr_199_106 (by omega) ?_
                            refine zw_7 zr_199_107 rfl ?_
                            refine zw_3 zr_199_108 rfl ?_
                            refine zw_push zr_199_109 ?_
                            refine zw_C zr_199_110 (Or.inl rfl) zm_144 rfl rfl ⟨Nat.le_of_ble_eq_true rfl, Nat.le_of_ble_eq_true rfl, Nat.le_of_ble_eq_true rfl, rfl, by decide⟩ (by omega) (P := (fun v m' => zW E (d) 199 113 [(2, 69), (0, a0), (0, i140), (0, x248), (9, 0), (9, 0), (9, 0), (9, 0), (9, 0), (9, 0)] (if v.1 = 9 then [(0, ((10 * x248) + x248)), (2, 83)] else v :: [(0, ((10 * x248) + x248)), (2, 83)]) m' Q)) ?_ (fun _ _ h => h)
                            generalize hQ1 : (fun v m' => zW E (d) 199 113 [(2, 69), (0, a0), (0, i140), (0, x248), (9, 0), (9, 0), (9, 0), (9, 0), (9, 0), (9, 0)] (if v.1 = 9 then [(0, ((10 * x248) + x248)), (2, 83)] else v :: [(0, ((10 * x248) + x248)), (2, 83)]) m' Q) = Q1
                            show zW E (d - 1) 144 0 [(2, 69), (0, i140), (0, 2)] [] m141 Q1
                            refine zw_7 zr_144_0 rfl ?_
                            refine zw_46r (s := 70) zr_144_1 rfl rfl rfl rfl ?_
                            refine zw_push zr_144_4 ?_
                            refine zw_push zr_144_6 ?_
                            refine zw_3 zr_144_8 rfl ?_
                            refine zw_18 zr_144_9 (by omega) ?_
                            refine zw_16 zr_144_10 (by omega) ?_
                            refine zw_3 zr_144_11 rfl ?_
                            refine zw_16 zr_144_12 (by omega) ?_
                            refine zw_48 (c := 70) (len := 826) zr_144_13 rfl rfl (by omega) (by omega) ?_
                            intro x249 ex249
                            have bx249 := ib_70_m2 hIm141 (k := (((90 + (6 * i140)) + 2)).toNat) (by omega)
                            rw [← ex249] at bx249
                            have qx249 : x249 = F70 (((90 + (6 * i140)) + 2)).toNat := by rw [← fm141_70]; exact ex249
                            refine zw_R zr_144_14 (by decide) zm_144 (v := (0, x249)) rfl ?_
                            rw [← hQ1]
                            show zW E (d) 199 113 [(2, 69), (0, a0), (0, i140), (0, x248), (9, 0), (9, 0), (9, 0), (9, 0), (9, 0), (9, 0)] [(0, x249), (0, ((10 * x248) + x248)), (2, 83)] m141 Q
                            refine zw_16 zr_199_113 (by omega) ?_
                            refine zw_3 zr_199_114 rfl ?_
                            refine zw_17 zr_199_115 (by omega) ?_
                            refine zw_45 zr_199_116 ⟨rfl, rfl⟩ ?_
                            refine zw_48 (c := 83) (len := 100) zr_199_117 rfl rfl (by omega) (by omega) ?_
                            intro x250 ex250
                            have bx250 := ib_83 hIm141 (k := (((((10 * x248) + x248) + x249) - x248)).toNat) (by omega)
                            rw [← ex250] at bx250
                            have qx250 : x250 = f142 (((((10 * x248) + x248) + x249) - x248)).toNat := by rw [← fm141_83]; exact ex250
                            clear ex250
                            have hx := qx250
                            have z252 : x250 ≤ i140 := by rw [qx250]; exact zWu_le hv0lp39_144 (by omega) (by omega)
                            refine zw_push zr_199_118 ?_
                            refine zw_16 zr_199_119 (by omega) ?_
                            refine zw_49 (c := 83) (len := 100) zr_199_120 rfl rfl (by omega) (by omega) ?_
                            intro m253 em253
                            have hIm253 : zInv m253 := by rw [em253]; exact iu_83 hIm141 (by omega)
                            have hFm253 : zFr W_199 m0 m253 := by rw [em253]; exact hFm141.any rfl
                            have km253_70_822 : m253 70 822 = g0 := by rw [em253, zUp_ne (by omega)]; exact km141_70_822
                            have km253_70_823 : m253 70 823 = g1 := by rw [em253, zUp_ne (by omega)]; exact km141_70_823
                            have fm253_70 : m253 70 = F70 := by rw [em253, zUp_fn (by decide)]; exact fm141_70
                            have fm253_83 : m253 83 = zPt f142 ((((((10 * x248) + x248) + x249) - x248)).toNat) ((x250 + 1)) := by rw [em253]; exact (zUp_ff (m := m141)).trans (congrArg (fun q => zPt q ((((((10 * x248) + x248) + x249) - x248)).toNat) ((x250 + 1))) fm141_83)
                            have fm253_84 : m253 84 = f143 := by rw [em253, zUp_fn (by decide)]; exact fm141_84
                            clear em253
                            refine zw_15 (c := 1) (L' := [(2, 69), (0, a0), (0, (i140 + 1)), (0, x248), (9, 0), (9, 0), (9, 0), (9, 0), (9, 0), (9, 0)]) zr_199_121 rfl (by decide) (by omega) rfl ?_
                            refine zw_42 zr_199_124 ?_
                            exact zw_less (L := [(2, 69), (0, a0), (0, (i140 + 1)), (9, 0), (9, 0), (9, 0), (9, 0), (9, 0), (9, 0), (9, 0)]) ⟨Or.inr rfl, Or.inr rfl, Or.inr rfl, Or.inl rfl, Or.inl rfl, Or.inl rfl, Or.inl rfl, Or.inl rfl, Or.inl rfl, Or.inl rfl, trivial⟩ (ihlp39_144 ((i140 + 1)) (zPt f142 ((((((10 * x248) + x248) + x249) - x248)).toNat) ((x250 + 1))) (f143) m253 hIm253 hFm253  km253_70_822 km253_70_823 fm253_70 fm253_83 fm253_84 (by omega) (by omega) (by first | exact zWu_skip hv0lp39_144 (by omega) (by omega) | exact zWu_put hv0lp39_144 (by omega) (by omega) (by omega) (by omega) (by omega) hx) (by omega) (by omega))
                exact lp39_144 _ (0) (f135) (f136) m134 hIm134 hFm134  km134_70_822 km134_70_823 fm134_70 fm134_83 fm134_84 (by omega) (by omega) (zWu_0 hv0lp18_137 (by omega)) (by omega) (Nat.lt_succ_self _)
              · intro h256
                refine zw_7 zr_199_24 rfl ?_
                refine zw_46r (s := 83) zr_199_25 rfl rfl rfl rfl ?_
                refine zw_3 zr_199_28 rfl ?_
                refine zw_push zr_199_29 ?_
                refine zw_49 (c := 83) (len := 100) zr_199_30 rfl rfl (by omega) (by omega) ?_
                intro m257 em257
                have hIm257 : zInv m257 := by rw [em257]; exact iu_83 hIm134 (by omega)
                have hFm257 : zFr W_199 m0 m257 := by rw [em257]; exact hFm134.any rfl
                have km257_70_822 : m257 70 822 = g0 := by rw [em257, zUp_ne (by omega)]; exact km134_70_822
                have km257_70_823 : m257 70 823 = g1 := by rw [em257, zUp_ne (by omega)]; exact km134_70_823
                have fm257_70 : m257 70 = F70 := by rw [em257, zUp_fn (by decide)]; exact fm134_70
                have fm257_83 : m257 83 = zPt f135 ((i133).toNat) 0 := by rw [em257]; exact (zUp_ff (m := m134)).trans (congrArg (fun q => zPt q ((i133).toNat) 0) fm134_83)
                have fm257_84 : m257 84 = f136 := by rw [em257, zUp_fn (by decide)]; exact fm134_84
                clear em257
                refine zw_15 (c := 1) (L' := [(2, 69), (0, a0), (0, (i133 + 1)), (9, 0), (9, 0), (9, 0), (9, 0), (9, 0), (9, 0), (9, 0)]) zr_199_31 rfl (by decide) (by omega) rfl ?_
                refine zw_42 zr_199_34 ?_
                exact zw_less (L := [(2, 69), (0, a0), (0, (i133 + 1)), (9, 0), (9, 0), (9, 0), (9, 0), (9, 0), (9, 0), (9, 0)]) ⟨Or.inr rfl, Or.inr rfl, Or.inr rfl, Or.inl rfl, Or.inl rfl, Or.inl rfl, Or.inl rfl, Or.inl rfl, Or.inl rfl, Or.inl rfl, trivial⟩ (ihlp18_137 ((i133 + 1)) (zPt f135 ((i133).toNat) 0) (f136) m257 hIm257 hFm257  km257_70_822 km257_70_823 fm257_70 fm257_83 fm257_84 (by omega) (by omega) (zFil_put hv0lp18_137 (by omega)) (by omega))
          exact lp18_137 _ (0) (F83) (F84) m0 hI0 hF0  hg0 hg1 hG70 hG83 hG84 (by omega) (by omega) (zFil_0) (Nat.lt_succ_self _)
        · intro h260; omega
