set_option maxHeartbeats 8000000 in
theorem th_69 {E : zE} {d : Nat} {m0 : zM} {g0 : Int} {F62 : Nat → Int} (hd : 1 ≤ d) (hI0 : zInv m0) (hg0 : m0 1 0 = g0) (hG62 : m0 62 = F62) : zC E d 69 [(2, 60)] m0 (fun v m' => ∃ r : Int, v = (0, r) ∧ (-1) ≤ r ∧ r ≤ 9 ∧ m0 = m' ∧ (zLm F62 g0 r)) := by
  have bg0 := ib_1_0 hI0
  rw [hg0] at bg0
  generalize hQ : (fun (v : zV) (m' : zM) => ∃ r : Int, v = (0, r) ∧ (-1) ≤ r ∧ r ≤ 9 ∧ m0 = m' ∧ (zLm F62 g0 r)) = Q
  show zW E d 69 0 [(2, 60), (9, 0)] [] m0 Q
  refine zw_push zr_69_0 ?_
  refine zw_9 (L' := [(2, 60), (0, 0)]) zr_69_1 (Nat.le_of_ble_eq_true rfl) rfl ?_
  have lp2_2 : ∀ (nlp2_2 : Nat) (i1 : Int), 0 ≤ i1 → i1 ≤ 10 → (zLq F62 i1) → (i1 ≤ g0) → (10 - i1).toNat < nlp2_2 → zW E (d) 69 2 [(2, 60), (0, i1)] [] m0 Q := by
    intro nlp2_2
    induction nlp2_2 with
    | zero =>
      intros
      exact absurd (by assumption : _ < 0) (Nat.not_lt_zero _)
    | succ nlp2_2 ihlp2_2 =>
      intro i1 li1 ui1 hv0lp2_2 hv1lp2_2 hmlp2_2
      refine zw_3 zr_69_2 rfl ?_
      refine zw_7 zr_69_3 rfl ?_
      refine zw_46r (s := 1) zr_69_4 rfl rfl rfl rfl ?_
      refine zw_46i zr_69_7 hg0 rfl rfl rfl ?_
      refine zw_41_3 zr_69_10 ?_ ?_
      · intro h4
        refine zw_push zr_69_31 ?_
        refine zw_R zr_69_32 (by decide) zm_69 (v := (0, (-1))) rfl ?_
        rw [← hQ]; exact ⟨_, rfl, by omega, by omega, rfl, by first | exact Or.inl ⟨rfl, fun q hq => hv0lp2_2 q (by omega)⟩ | exact Or.inr ⟨by omega, by omega, by rw [← qzz]; omega, hv0lp2_2⟩⟩
      · intro h6
        refine zw_7 zr_69_13 rfl ?_
        refine zw_46r (s := 62) zr_69_14 rfl rfl rfl rfl ?_
        refine zw_3 zr_69_17 rfl ?_
        refine zw_48 (c := 62) (len := 10) zr_69_18 rfl rfl (by omega) (by omega) ?_
        intro x7 ex7
        have bx7 := ib_62 hI0 (k := (i1).toNat) (by omega)
        rw [← ex7] at bx7
        have qx7 : x7 = F62 (i1).toNat := by rw [← hG62]; exact ex7
        clear ex7
        refine zw_push zr_69_19 ?_
        refine zw_41_1 zr_69_20 ?_ ?_
        · intro h8
          refine zw_15 (c := 1) (L' := [(2, 60), (0, (i1 + 1))]) zr_69_25 rfl (by decide) (by omega) rfl ?_
          refine zw_42 zr_69_28 ?_
          exact zw_less (L := [(2, 60), (0, (i1 + 1))]) ⟨Or.inr rfl, Or.inr rfl, trivial⟩ (ihlp2_2 ((i1 + 1))  (by omega) (by omega) (zLq_s hv0lp2_2 (by omega) qx7 (by omega)) (by omega) (by omega))
        · intro h10
          refine zw_3 zr_69_23 rfl ?_
          refine zw_R zr_69_24 (by decide) zm_69 (v := (0, i1)) rfl ?_
          rw [← hQ]; exact ⟨_, rfl, by omega, by omega, rfl, by first | exact Or.inl ⟨rfl, fun q hq => hv0lp2_2 q (by omega)⟩ | exact Or.inr ⟨by omega, by omega, by rw [← qx7]; omega, hv0lp2_2⟩⟩
  exact lp2_2 _ (0)  (by omega) (by omega) (zLq_0) (by omega) (Nat.lt_succ_self _)

abbrev W_71 : List (Nat × Nat) := [(61, 1000), (62, 1000)]
set_option maxHeartbeats 8000000 in
theorem th_71 {E : zE} {d : Nat} {m0 : zM} {a0 : Int} {g0 : Int} {g1 : Int} {g2 : Int} {g3 : Int} {F6 : Nat → Int} {F7 : Nat → Int} (hd : 3 ≤ d) (hI0 : zInv m0) (hg0 : m0 1 0 = g0) (hg1 : m0 1 1 = g1) (hg2 : m0 1 2 = g2) (hg3 : m0 1 3 = g3) (hG6 : m0 6 = F6) (hG7 : m0 7 = F7) (ha0 : 0 ≤ a0 ∧ a0 ≤ 9) (hp0 : a0 < g0) : zC E d 71 [(2, 60), (0, a0)] m0 (fun v m' => ∃ r : Int, v = (0, r) ∧ (-1) ≤ r ∧ r ≤ 9 ∧ zInv m' ∧ zFr W_71 m0 m' ∧ (0 ≤ r ∧ zLs (edp F6 F7 g2 g3 g1 (-1) g0) a0 r)) := by
  have hF0 : zFr W_71 m0 m0 := zFr.rfl
  have bg0 := ib_1_0 hI0
  rw [hg0] at bg0
  have bg1 := ib_1_1 hI0
  rw [hg1] at bg1
  have bg2 := ib_1_2 hI0
  rw [hg2] at bg2
  have bg3 := ib_1_3 hI0
  rw [hg3] at bg3
  generalize hQ : (fun (v : zV) (m' : zM) => ∃ r : Int, v = (0, r) ∧ (-1) ≤ r ∧ r ≤ 9 ∧ zInv m' ∧ zFr W_71 m0 m' ∧ (0 ≤ r ∧ zLs (edp F6 F7 g2 g3 g1 (-1) g0) a0 r)) = Q
  show zW E d 71 0 [(2, 60), (0, a0)] [] m0 Q
  refine zw_7 zr_71_0 rfl ?_
  refine zw_7 zr_71_1 rfl ?_
  refine zw_46r (s := 1) zr_71_2 rfl rfl rfl rfl ?_
  refine zw_C zr_71_5 (Or.inl rfl) zm_53 rfl rfl ⟨Nat.le_of_ble_eq_true rfl, Nat.le_of_ble_eq_true rfl, Nat.le_of_ble_eq_true rfl, rfl, by decide⟩ (by omega) (th_53 (d := d - 1) (by omega) hI0  (g0 := g1) (g1 := g2) (g2 := g3)   hg1 hg2 hg3   ) ?_
  rintro _ _ ⟨r1, rfl, hr1a, hr1b, rfl, po0_r1⟩
  show zW E (d) 71 8 [(2, 60), (0, a0)] [(1, r1), (2, 60)] m0 Q
  refine zw_C zr_71_8 (Or.inl rfl) zm_66 rfl rfl ⟨Nat.le_of_ble_eq_true rfl, Nat.le_of_ble_eq_true rfl, Nat.le_of_ble_eq_true rfl, rfl, by decide⟩ (by omega) (th_66 (d := d - 1) (by omega) hI0 (a0 := r1) (g0 := g1)  (F61 := m0 61) (F6 := F6) (F7 := F7) hg1 rfl hG6 hG7 (by omega) ) ?_
  rintro _ m2 ⟨rfl, hIm2, gm2, po0_m2⟩
  have hFm2 : zFr W_71 m0 m2 := hF0.trans gm2 rfl
  have km2_1_0 : m2 1 0 = g0 := (gm2 1 0 rfl).trans hg0
  have km2_1_1 : m2 1 1 = g1 := (gm2 1 1 rfl).trans hg1
  have km2_1_2 : m2 1 2 = g2 := (gm2 1 2 rfl).trans hg2
  have km2_1_3 : m2 1 3 = g3 := (gm2 1 3 rfl).trans hg3
  have fm2_6 : m2 6 = F6 := (funext fun k => gm2 6 k rfl).trans hG6
  have fm2_7 : m2 7 = F7 := (funext fun k => gm2 7 k rfl).trans hG7
  show zW E (d) 71 11 [(2, 60), (0, a0)] [] m2 Q
  refine zw_7 zr_71_11 rfl ?_
  refine zw_3 zr_71_12 rfl ?_
  refine zw_C zr_71_13 (Or.inl rfl) zm_67 rfl rfl ⟨Nat.le_of_ble_eq_true rfl, Nat.le_of_ble_eq_true rfl, Nat.le_of_ble_eq_true rfl, rfl, by decide⟩ (by omega) (th_67 (d := d - 1) (by omega) hIm2 (a0 := a0) (g0 := g0)  (F61 := m2 61) (F62 := m2 62) km2_1_0 rfl rfl (by omega) ) ?_
  rintro _ m3 ⟨rfl, hIm3, gm3, po0_m3⟩
  have hFm3 : zFr W_71 m0 m3 := hFm2.trans gm3 rfl
  have km3_1_0 : m3 1 0 = g0 := (gm3 1 0 rfl).trans km2_1_0
  have km3_1_1 : m3 1 1 = g1 := (gm3 1 1 rfl).trans km2_1_1
  have km3_1_2 : m3 1 2 = g2 := (gm3 1 2 rfl).trans km2_1_2
  have km3_1_3 : m3 1 3 = g3 := (gm3 1 3 rfl).trans km2_1_3
  have fm3_6 : m3 6 = F6 := (funext fun k => gm3 6 k rfl).trans fm2_6
  have fm3_7 : m3 7 = F7 := (funext fun k => gm3 7 k rfl).trans fm2_7
  show zW E (d) 71 16 [(2, 60), (0, a0)] [] m3 Q
  refine zw_7 zr_71_16 rfl ?_
  refine zw_C zr_71_17 (Or.inl rfl) zm_69 rfl rfl ⟨Nat.le_of_ble_eq_true rfl, Nat.le_of_ble_eq_true rfl, Nat.le_of_ble_eq_true rfl, rfl, by decide⟩ (by omega) (th_69 (d := d - 1) (by omega) hIm3  (g0 := g0)  (F62 := m3 62) km3_1_0 rfl  ) ?_
  rintro _ _ ⟨r4, rfl, hr4a, hr4b, rfl, po0_r4⟩
  show zW E (d) 71 20 [(2, 60), (0, a0)] [(0, r4)] m3 Q
  refine zw_R zr_71_20 (by decide) zm_71 (v := (0, r4)) rfl ?_
  rw [← hQ]; exact ⟨_, rfl, by omega, by omega, hIm3, hFm3, zLs_f po0_r1 po0_m2 po0_m3 po0_r4 (by omega) (by omega) (by omega)⟩

abbrev W_70 : List (Nat × Nat) := [(61, 1000), (62, 1000)]
set_option maxHeartbeats 8000000 in
theorem th_70 {E : zE} {d : Nat} {m0 : zM} {g0 : Int} {g1 : Int} {g2 : Int} {g3 : Int} {F6 : Nat → Int} {F7 : Nat → Int} {F61 : Nat → Int} (hd : 3 ≤ d) (hI0 : zInv m0) (hg0 : m0 1 0 = g0) (hg1 : m0 1 1 = g1) (hg2 : m0 1 2 = g2) (hg3 : m0 1 3 = g3) (hG6 : m0 6 = F6) (hG7 : m0 7 = F7) (hG61 : m0 61 = F61) : zC E d 70 [(2, 60)] m0 (fun v m' => ∃ r : Int, v = (0, r) ∧ 0 ≤ r ∧ r ≤ 10 ∧ zInv m' ∧ zFr W_70 m0 m' ∧ (r = isl (edp F6 F7 g2 g3 g1 (-1) g0) g0.toNat)) := by
  have hF0 : zFr W_70 m0 m0 := zFr.rfl
  have bg0 := ib_1_0 hI0
  rw [hg0] at bg0
  have bg1 := ib_1_1 hI0
  rw [hg1] at bg1
  have bg2 := ib_1_2 hI0
  rw [hg2] at bg2
  have bg3 := ib_1_3 hI0
  rw [hg3] at bg3
  generalize hQ : (fun (v : zV) (m' : zM) => ∃ r : Int, v = (0, r) ∧ 0 ≤ r ∧ r ≤ 10 ∧ zInv m' ∧ zFr W_70 m0 m' ∧ (r = isl (edp F6 F7 g2 g3 g1 (-1) g0) g0.toNat)) = Q
  show zW E d 70 0 [(2, 60), (9, 0), (9, 0)] [] m0 Q
  refine zw_push zr_70_0 ?_
  refine zw_9 (L' := [(2, 60), (0, 0), (9, 0)]) zr_70_1 (Nat.le_of_ble_eq_true rfl) rfl ?_
  refine zw_7 zr_70_2 rfl ?_
  refine zw_7 zr_70_3 rfl ?_
  refine zw_46r (s := 1) zr_70_4 rfl rfl rfl rfl ?_
  refine zw_C zr_70_7 (Or.inl rfl) zm_53 rfl rfl ⟨Nat.le_of_ble_eq_true rfl, Nat.le_of_ble_eq_true rfl, Nat.le_of_ble_eq_true rfl, rfl, by decide⟩ (by omega) (th_53 (d := d - 1) (by omega) hI0  (g0 := g1) (g1 := g2) (g2 := g3)   hg1 hg2 hg3   ) ?_
  rintro _ _ ⟨r1, rfl, hr1a, hr1b, rfl, po0_r1⟩
  show zW E (d) 70 10 [(2, 60), (0, 0), (9, 0)] [(1, r1), (2, 60)] m0 Q
  refine zw_C zr_70_10 (Or.inl rfl) zm_66 rfl rfl ⟨Nat.le_of_ble_eq_true rfl, Nat.le_of_ble_eq_true rfl, Nat.le_of_ble_eq_true rfl, rfl, by decide⟩ (by omega) (th_66 (d := d - 1) (by omega) hI0 (a0 := r1) (g0 := g1)  (F61 := F61) (F6 := F6) (F7 := F7) hg1 hG61 hG6 hG7 (by omega) ) ?_
  rintro _ m2 ⟨rfl, hIm2, gm2, po0_m2⟩
  have hFm2 : zFr W_70 m0 m2 := hF0.trans gm2 rfl
  have km2_1_0 : m2 1 0 = g0 := (gm2 1 0 rfl).trans hg0
  have km2_1_1 : m2 1 1 = g1 := (gm2 1 1 rfl).trans hg1
  have km2_1_2 : m2 1 2 = g2 := (gm2 1 2 rfl).trans hg2
  have km2_1_3 : m2 1 3 = g3 := (gm2 1 3 rfl).trans hg3
  have fm2_6 : m2 6 = F6 := (funext fun k => gm2 6 k rfl).trans hG6
  have fm2_7 : m2 7 = F7 := (funext fun k => gm2 7 k rfl).trans hG7
  obtain ⟨f3, fm2_61⟩ : ∃ f, m2 61 = f := ⟨_, rfl⟩
  try rw [fm2_61] at po0_m2
  show zW E (d) 70 13 [(2, 60), (0, 0), (9, 0)] [] m2 Q
  refine zw_push zr_70_13 ?_
  refine zw_9 (L' := [(2, 60), (0, 0), (0, 0)]) zr_70_14 (Nat.le_of_ble_eq_true rfl) rfl ?_
  have lp15_7 : ∀ (nlp15_7 : Nat) (i4 i5 : Int) (m6 : zM), zInv m6 → zFr W_70 m0 m6 → m6 1 0 = g0 → m6 1 1 = g1 → m6 1 2 = g2 → m6 1 3 = g3 → m6 6 = F6 → m6 7 = F7 → m6 61 = f3 → 0 ≤ i4 → i4 ≤ 10 → 0 ≤ i5 → i5 ≤ 10 → (i4 = isl (edp F6 F7 g2 g3 g1 (-1) g0) (i5).toNat) → (i4 ≤ i5 ∧ i5 ≤ g0) → (10 - i5).toNat < nlp15_7 → zW E (d) 70 15 [(2, 60), (0, i4), (0, i5)] [] m6 Q := by
    intro nlp15_7
    induction nlp15_7 with
    | zero =>
      intros
      exact absurd (by assumption : _ < 0) (Nat.not_lt_zero _)
    | succ nlp15_7 ihlp15_7 =>
      intro i4 i5 m6 hIm6 hFm6 km6_1_0 km6_1_1 km6_1_2 km6_1_3 fm6_6 fm6_7 fm6_61 li4 ui4 li5 ui5 hv0lp15_7 hv1lp15_7 hmlp15_7
      refine zw_3 zr_70_15 rfl ?_
      refine zw_7 zr_70_16 rfl ?_
      refine zw_46r (s := 1) zr_70_17 rfl rfl rfl rfl ?_
      refine zw_46i zr_70_20 km6_1_0 rfl rfl rfl ?_
      refine zw_41_3 zr_70_23 ?_ ?_
      · intro h9
        refine zw_3 zr_70_48 rfl ?_
        refine zw_R zr_70_49 (by decide) zm_70 (v := (0, i4)) rfl ?_
        rw [← hQ]; exact ⟨_, rfl, by omega, by omega, hIm6, hFm6, by have z := hv0lp15_7; rw [show (i5).toNat = g0.toNat by omega] at z; exact z⟩
      · intro h11
        refine zw_7 zr_70_26 rfl ?_
        refine zw_3 zr_70_27 rfl ?_
        refine zw_C zr_70_28 (Or.inl rfl) zm_67 rfl rfl ⟨Nat.le_of_ble_eq_true rfl, Nat.le_of_ble_eq_true rfl, Nat.le_of_ble_eq_true rfl, rfl, by decide⟩ (by omega) (th_67 (d := d - 1) (by omega) hIm6 (a0 := i5) (g0 := g0)  (F61 := f3) (F62 := m6 62) km6_1_0 fm6_61 rfl (by omega) ) ?_
        rintro _ m12 ⟨rfl, hIm12, gm12, po0_m12⟩
        have hFm12 : zFr W_70 m0 m12 := hFm6.trans gm12 rfl
        have km12_1_0 : m12 1 0 = g0 := (gm12 1 0 rfl).trans km6_1_0
        have km12_1_1 : m12 1 1 = g1 := (gm12 1 1 rfl).trans km6_1_1
        have km12_1_2 : m12 1 2 = g2 := (gm12 1 2 rfl).trans km6_1_2
        have km12_1_3 : m12 1 3 = g3 := (gm12 1 3 rfl).trans km6_1_3
        have fm12_6 : m12 6 = F6 := (funext fun k => gm12 6 k rfl).trans fm6_6
        have fm12_7 : m12 7 = F7 := (funext fun k => gm12 7 k rfl).trans fm6_7
        have fm12_61 : m12 61 = f3 := (funext fun k => gm12 61 k rfl).trans fm6_61
        show zW E (d) 70 31 [(2, 60), (0, i4), (0, i5)] [] m12 Q
        refine zw_7 zr_70_31 rfl ?_
        refine zw_C zr_70_32 (Or.inl rfl) zm_69 rfl rfl ⟨Nat.le_of_ble_eq_true rfl, Nat.le_of_ble_eq_true rfl, Nat.le_of_ble_eq_true rfl, rfl, by decide⟩ (by omega) (th_69 (d := d - 1) (by omega) hIm12  (g0 := g0)  (F62 := m12 62) km12_1_0 rfl  ) ?_
        rintro _ _ ⟨r13, rfl, hr13a, hr13b, rfl, po0_r13⟩
        show zW E (d) 70 35 [(2, 60), (0, i4), (0, i5)] [(0, r13)] m12 Q
        have z14 := isl_c (by assumption : zLk f3 F6 F7 _ g1) (by assumption : zSy _ g2 g3 g1) po0_m12 po0_r13 (by omega) (by omega) (by omega)
        refine zw_3 zr_70_35 rfl ?_
        refine zw_41_4 zr_70_36 ?_ ?_
        · intro h15
          refine zw_15 (c := 1) (L' := [(2, 60), (0, i4), (0, (i5 + 1))]) zr_70_42 rfl (by decide) (by omega) rfl ?_
          refine zw_42 zr_70_45 ?_
          exact zw_less (L := [(2, 60), (0, i4), (0, (i5 + 1))]) ⟨Or.inr rfl, Or.inr rfl, Or.inr rfl, trivial⟩ (ihlp15_7 (i4) ((i5 + 1)) m12 hIm12 hFm12  km12_1_0 km12_1_1 km12_1_2 km12_1_3 fm12_6 fm12_7 fm12_61 (by omega) (by omega) (by omega) (by omega) (by omega) (by omega) (by omega))
        · intro h16
          refine zw_15 (c := 1) (L' := [(2, 60), (0, (i4 + 1)), (0, i5)]) zr_70_39 rfl (by decide) (by omega) rfl ?_
          refine zw_15 (c := 1) (L' := [(2, 60), (0, (i4 + 1)), (0, (i5 + 1))]) zr_70_42 rfl (by decide) (by omega) rfl ?_
          refine zw_42 zr_70_45 ?_
          exact zw_less (L := [(2, 60), (0, (i4 + 1)), (0, (i5 + 1))]) ⟨Or.inr rfl, Or.inr rfl, Or.inr rfl, trivial⟩ (ihlp15_7 ((i4 + 1)) ((i5 + 1)) m12 hIm12 hFm12  km12_1_0 km12_1_1 km12_1_2 km12_1_3 fm12_6 fm12_7 fm12_61 (by omega) (by omega) (by omega) (by omega) (by omega) (by omega) (by omega))
  exact lp15_7 _ (0) (0) m2 hIm2 hFm2  km2_1_0 km2_1_1 km2_1_2 km2_1_3 fm2_6 fm2_7 fm2_61 (by omega) (by omega) (by omega) (by omega) (by rfl) (by omega) (Nat.lt_succ_self _)

abbrev W_120 : List (Nat × Nat) := [(61, 1000), (62, 1000)]
set_option maxHeartbeats 8000000 in
theorem th_120 {E : zE} {d : Nat} {m0 : zM} {a0 : Int} {g0 : Int} {g1 : Int} {g2 : Int} {g3 : Int} {F6 : Nat → Int} {F7 : Nat → Int} (hd : 4 ≤ d) (hI0 : zInv m0) (hg0 : m0 1 0 = g0) (hg1 : m0 1 1 = g1) (hg2 : m0 1 2 = g2) (hg3 : m0 1 3 = g3) (hG6 : m0 6 = F6) (hG7 : m0 7 = F7) (ha0 : (-2147483648) ≤ a0 ∧ a0 ≤ 2147483647) : zC E d 120 [(2, 0), (0, a0)] m0 (fun v m' => ∃ r : Int, v = (0, r) ∧ (-2) ≤ r ∧ r ≤ 10 ∧ zInv m' ∧ zFr W_120 m0 m' ∧ ((a0 = -1 ∧ r = isl (edp F6 F7 g2 g3 g1 (-1) g0) g0.toNat) ∨ ((0 ≤ a0 ∧ a0 < g0) ∧ 0 ≤ r ∧ zLs (edp F6 F7 g2 g3 g1 (-1) g0) a0 r) ∨ ((a0 < -1 ∨ g0 ≤ a0) ∧ r = -2))) := by
  have hF0 : zFr W_120 m0 m0 := zFr.rfl
  have bg0 := ib_1_0 hI0
  rw [hg0] at bg0
  have bg1 := ib_1_1 hI0
  rw [hg1] at bg1
  have bg2 := ib_1_2 hI0
  rw [hg2] at bg2
  have bg3 := ib_1_3 hI0
  rw [hg3] at bg3
  generalize hQ : (fun (v : zV) (m' : zM) => ∃ r : Int, v = (0, r) ∧ (-2) ≤ r ∧ r ≤ 10 ∧ zInv m' ∧ zFr W_120 m0 m' ∧ ((a0 = -1 ∧ r = isl (edp F6 F7 g2 g3 g1 (-1) g0) g0.toNat) ∨ ((0 ≤ a0 ∧ a0 < g0) ∧ 0 ≤ r ∧ zLs (edp F6 F7 g2 g3 g1 (-1) g0) a0 r) ∨ ((a0 < -1 ∨ g0 ≤ a0) ∧ r = -2))) = Q
  show zW E d 120 0 [(2, 0), (0, a0)] [] m0 Q
  refine zw_3 zr_120_0 rfl ?_
  refine zw_push zr_120_1 ?_
  refine zw_41_4 zr_120_2 ?_ ?_
  · intro h1
    refine zw_7 zr_120_13 rfl ?_
    refine zw_46r (s := 1) zr_120_14 rfl rfl rfl rfl ?_
    refine zw_3 zr_120_17 rfl ?_
    refine zw_C zr_120_18 (Or.inl rfl) zm_49 rfl rfl ⟨Nat.le_of_ble_eq_true rfl, Nat.le_of_ble_eq_true rfl, Nat.le_of_ble_eq_true rfl, rfl, by decide⟩ (by omega) (P := (fun v m' => zW E (d) 120 21 [(2, 0), (0, a0)] (if v.1 = 9 then [] else v :: []) m' Q)) ?_ (fun _ _ h => h)
    generalize hQ1 : (fun v m' => zW E (d) 120 21 [(2, 0), (0, a0)] (if v.1 = 9 then [] else v :: []) m' Q) = Q1
    show zW E (d - 1) 49 0 [(2, 1), (0, a0)] [] m0 Q1
    refine zw_3 zr_49_0 rfl ?_
    refine zw_40_0 zr_49_1 ?_ ?_
    · intro h2
      refine zw_push zr_49_16 ?_
      refine zw_R zr_49_17 (by decide) zm_49 (v := (0, 0)) (zRetB (by omega)) ?_
      rw [← hQ1]
      show zW E (d) 120 21 [(2, 0), (0, a0)] [(0, 0)] m0 Q
      refine zw_40_1 zr_120_21 ?_ ?_
      · intro h3
        refine zw_push zr_120_35 ?_
        refine zw_R zr_120_37 (by decide) zm_120 (v := (0, (-2))) rfl ?_
        rw [← hQ]; exact ⟨_, rfl, by omega, by omega, hI0, hF0, by first | exact Or.inl ⟨by omega, zz⟩ | exact Or.inr (Or.inl ⟨by omega, zz⟩) | exact Or.inr (Or.inr ⟨by omega, rfl⟩)⟩
      · intro h5; omega
    · intro h6
      refine zw_3 zr_49_4 rfl ?_
      refine zw_7 zr_49_5 rfl ?_
      refine zw_46i zr_49_6 hg0 rfl rfl rfl ?_
      refine zw_41_3 zr_49_9 ?_ ?_
      · intro h7
        refine zw_push zr_49_16 ?_
        refine zw_R zr_49_17 (by decide) zm_49 (v := (0, 0)) (zRetB (by omega)) ?_
        rw [← hQ1]
        show zW E (d) 120 21 [(2, 0), (0, a0)] [(0, 0)] m0 Q
        refine zw_40_1 zr_120_21 ?_ ?_
        · intro h8
          refine zw_push zr_120_35 ?_
          refine zw_R zr_120_37 (by decide) zm_120 (v := (0, (-2))) rfl ?_
          rw [← hQ]; exact ⟨_, rfl, by omega, by omega, hI0, hF0, by first | exact Or.inl ⟨by omega, zz⟩ | exact Or.inr (Or.inl ⟨by omega, zz⟩) | exact Or.inr (Or.inr ⟨by omega, rfl⟩)⟩
        · intro h10; omega
      · intro h11
        refine zw_push zr_49_12 ?_
        refine zw_42 zr_49_13 ?_
        refine zw_R zr_49_17 (by decide) zm_49 (v := (0, 1)) (zRetB (by omega)) ?_
        rw [← hQ1]
        show zW E (d) 120 21 [(2, 0), (0, a0)] [(0, 1)] m0 Q
        refine zw_40_1 zr_120_21 ?_ ?_
        · intro h12; omega
        · intro h13
          refine zw_7 zr_120_24 rfl ?_
          refine zw_46r (s := 60) zr_120_25 rfl rfl rfl rfl ?_
          refine zw_3 zr_120_28 rfl ?_
          refine zw_C zr_120_29 (Or.inl rfl) zm_71 rfl rfl ⟨Nat.le_of_ble_eq_true rfl, Nat.le_of_ble_eq_true rfl, Nat.le_of_ble_eq_true rfl, rfl, by decide⟩ (by omega) (th_71 (d := d - 1) (by omega) hI0 (a0 := a0) (g0 := g0) (g1 := g1) (g2 := g2) (g3 := g3)  (F6 := F6) (F7 := F7) hg0 hg1 hg2 hg3 hG6 hG7 (by omega) (by omega)) ?_
          rintro _ m14 ⟨r15, rfl, hr15a, hr15b, hIm14, gm14, po0_r15⟩
          have hFm14 : zFr W_120 m0 m14 := hF0.trans gm14 rfl
          have km14_1_0 : m14 1 0 = g0 := (gm14 1 0 rfl).trans hg0
          have km14_1_1 : m14 1 1 = g1 := (gm14 1 1 rfl).trans hg1
          have km14_1_2 : m14 1 2 = g2 := (gm14 1 2 rfl).trans hg2
          have km14_1_3 : m14 1 3 = g3 := (gm14 1 3 rfl).trans hg3
          have fm14_6 : m14 6 = F6 := (funext fun k => gm14 6 k rfl).trans hG6
          have fm14_7 : m14 7 = F7 := (funext fun k => gm14 7 k rfl).trans hG7
          show zW E (d) 120 32 [(2, 0), (0, a0)] [(0, r15)] m14 Q
          refine zw_42 zr_120_32 ?_
          refine zw_R zr_120_37 (by decide) zm_120 (v := (0, r15)) rfl ?_
          rw [← hQ]; exact ⟨_, rfl, by omega, by omega, hIm14, hFm14, by first | exact Or.inl ⟨by omega, po0_r15⟩ | exact Or.inr (Or.inl ⟨by omega, po0_r15⟩) | exact Or.inr (Or.inr ⟨by omega, rfl⟩)⟩
  · intro h17
    refine zw_7 zr_120_5 rfl ?_
    refine zw_46r (s := 60) zr_120_6 rfl rfl rfl rfl ?_
    refine zw_C zr_120_9 (Or.inl rfl) zm_70 rfl rfl ⟨Nat.le_of_ble_eq_true rfl, Nat.le_of_ble_eq_true rfl, Nat.le_of_ble_eq_true rfl, rfl, by decide⟩ (by omega) (th_70 (d := d - 1) (by omega) hI0  (g0 := g0) (g1 := g1) (g2 := g2) (g3 := g3)  (F6 := F6) (F7 := F7) (F61 := m0 61) hg0 hg1 hg2 hg3 hG6 hG7 rfl  ) ?_
    rintro _ m18 ⟨r19, rfl, hr19a, hr19b, hIm18, gm18, po0_r19⟩
    have hFm18 : zFr W_120 m0 m18 := hF0.trans gm18 rfl
    have km18_1_0 : m18 1 0 = g0 := (gm18 1 0 rfl).trans hg0
    have km18_1_1 : m18 1 1 = g1 := (gm18 1 1 rfl).trans hg1
    have km18_1_2 : m18 1 2 = g2 := (gm18 1 2 rfl).trans hg2
    have km18_1_3 : m18 1 3 = g3 := (gm18 1 3 rfl).trans hg3
    have fm18_6 : m18 6 = F6 := (funext fun k => gm18 6 k rfl).trans hG6
    have fm18_7 : m18 7 = F7 := (funext fun k => gm18 7 k rfl).trans hG7
    show zW E (d) 120 12 [(2, 0), (0, a0)] [(0, r19)] m18 Q
    refine zw_R zr_120_12 (by decide) zm_120 (v := (0, r19)) rfl ?_
    rw [← hQ]; exact ⟨_, rfl, by omega, by omega, hIm18, hFm18, by first | exact Or.inl ⟨by omega, po0_r19⟩ | exact Or.inr (Or.inl ⟨by omega, po0_r19⟩) | exact Or.inr (Or.inr ⟨by omega, rfl⟩)⟩

abbrev W_188 : List (Nat × Nat) := [(81, 1000)]
set_option maxHeartbeats 8000000 in
theorem th_188 {E : zE} {d : Nat} {m0 : zM} {a0 : Int} {a1 : Int} {g0 : Int} {F70 : Nat → Int} {F81 : Nat → Int} (hd : 3 ≤ d) (hI0 : zInv m0) (hg0 : m0 70 823 = g0) (hG70 : m0 70 = F70) (hG81 : m0 81 = F81) (ha0 : 0 ≤ a0 ∧ a0 ≤ 9) (ha1 : (-1) ≤ a1 ∧ a1 ≤ 59) : zC E d 188 [(2, 69), (0, a0), (0, a1)] m0 (fun v m' => v = (9, 0) ∧ zInv m' ∧ zFr W_188 m0 m' ∧ (m' 81 a0.toNat ≤ 0) ∧ (zGd (edr F70 g0 a1) a0 (m' 81))) := by
  have hF0 : zFr W_188 m0 m0 := zFr.rfl
  have bg0 : 0 ≤ m0 70 823 ∧ m0 70 823 ≤ 60 := ib_70_meetings hI0 (by omega)
  rw [hg0] at bg0
  generalize hQ : (fun (v : zV) (m' : zM) => v = (9, 0) ∧ zInv m' ∧ zFr W_188 m0 m' ∧ (m' 81 a0.toNat ≤ 0) ∧ (zGd (edr F70 g0 a1) a0 (m' 81))) = Q
  show zW E d 188 0 [(2, 69), (0, a0), (0, a1), (9, 0), (9, 0), (9, 0), (9, 0)] [] m0 Q
  refine zw_push zr_188_0 ?_
  refine zw_9 (L' := [(2, 69), (0, a0), (0, a1), (0, 0), (9, 0), (9, 0), (9, 0)]) zr_188_1 (Nat.le_of_ble_eq_true rfl) rfl ?_
  have lp2_4 : ∀ (nlp2_4 : Nat) (i1 : Int) (f3 : Nat → Int) (m2 : zM), zInv m2 → zFr W_188 m0 m2 → m2 70 823 = g0 → m2 70 = F70 → m2 81 = f3 → 0 ≤ i1 → i1 ≤ 10 → (i1 ≤ a0 ∨ m2 81 a0.toNat ≤ 0) → (zG0 a0 i1 f3) → (10 - i1).toNat < nlp2_4 → zW E (d) 188 2 [(2, 69), (0, a0), (0, a1), (0, i1), (9, 0), (9, 0), (9, 0)] [] m2 Q := by
    intro nlp2_4
    induction nlp2_4 with
    | zero =>
      intros
      exact absurd (by assumption : _ < 0) (Nat.not_lt_zero _)
    | succ nlp2_4 ihlp2_4 =>
      intro i1 f3 m2 hIm2 hFm2 km2_70_823 fm2_70 fm2_81 li1 ui1 hv0lp2_4 hv1lp2_4 hmlp2_4
      refine zw_3 zr_188_2 rfl ?_
      refine zw_push zr_188_3 ?_
      refine zw_41_3 zr_188_5 ?_ ?_
      · intro h6
        refine zw_push zr_188_31 ?_
        refine zw_9 (L' := [(2, 69), (0, a0), (0, a1), (0, 0), (9, 0), (9, 0), (9, 0)]) zr_188_32 (Nat.le_of_ble_eq_true rfl) rfl ?_
        have lp33_10 : ∀ (nlp33_10 : Nat) (i7 : Int) (f9 : Nat → Int) (m8 : zM), zInv m8 → zFr W_188 m0 m8 → m8 70 823 = g0 → m8 70 = F70 → m8 81 = f9 → 0 ≤ i7 → i7 ≤ 10 → (m8 81 a0.toNat ≤ 0) → (zG1 (edr F70 g0 a1) a0 i7 f9) → (10 - i7).toNat < nlp33_10 → zW E (d) 188 33 [(2, 69), (0, a0), (0, a1), (0, i7), (9, 0), (9, 0), (9, 0)] [] m8 Q := by
          intro nlp33_10
          induction nlp33_10 with
          | zero =>
            intros
            exact absurd (by assumption : _ < 0) (Nat.not_lt_zero _)
          | succ nlp33_10 ihlp33_10 =>
            intro i7 f9 m8 hIm8 hFm8 km8_70_823 fm8_70 fm8_81 li7 ui7 hv0lp33_10 hv1lp33_10 hmlp33_10
            refine zw_3 zr_188_33 rfl ?_
            refine zw_push zr_188_34 ?_
            refine zw_41_3 zr_188_36 ?_ ?_
            · intro h12
              refine zw_R zr_188_186 (by decide) zm_188 (v := (9, 0)) rfl ?_
              rw [← hQ]; exact ⟨rfl, hIm8, hFm8, by omega, by rw [fm8_81]; exact zGd_end hv1lp33_10 (by omega) (by omega) (edr_lt (fun i hi => ⟨by rw [← hG70]; exact (ib_70_m1 hI0 (by omega)).2, by rw [← hG70]; exact (ib_70_m2 hI0 (by omega)).2⟩))⟩
            · intro h15
              refine zw_push zr_188_39 ?_
              refine zw_10 (L' := [(2, 69), (0, a0), (0, a1), (0, i7), (0, 0), (9, 0), (9, 0)]) zr_188_40 (Nat.le_of_ble_eq_true rfl) rfl ?_
              have lp42_19 : ∀ (nlp42_19 : Nat) (i16 : Int) (f18 : Nat → Int) (m17 : zM), zInv m17 → zFr W_188 m0 m17 → m17 70 823 = g0 → m17 70 = F70 → m17 81 = f18 → 0 ≤ i16 → i16 ≤ 60 → (m17 81 a0.toNat ≤ 0) → (zG2 (edr F70 g0 a1) F70 a1 a0 i7 i16 f18) → (60 - i16).toNat < nlp42_19 → zW E (d) 188 42 [(2, 69), (0, a0), (0, a1), (0, i7), (0, i16), (9, 0), (9, 0)] [] m17 Q := by
                intro nlp42_19
                induction nlp42_19 with
                | zero =>
                  intros
                  exact absurd (by assumption : _ < 0) (Nat.not_lt_zero _)
                | succ nlp42_19 ihlp42_19 =>
                  intro i16 f18 m17 hIm17 hFm17 km17_70_823 fm17_70 fm17_81 li16 ui16 hv0lp42_19 hv1lp42_19 hmlp42_19
                  have z21 : F70 ((90 + (6 * i16)) + 1).toNat = F70 (91 + 6 * (i16).toNat) := congrArg F70 (by omega)
                  have z22 : F70 ((90 + (6 * i16)) + 2).toNat = F70 (92 + 6 * (i16).toNat) := congrArg F70 (by omega)
                  have z23 : F70 ((90 + (6 * i16)) + 4).toNat = F70 (94 + 6 * (i16).toNat) := congrArg F70 (by omega)
                  have z24 : F70 ((90 + (6 * i16)) + 5).toNat = F70 (95 + 6 * (i16).toNat) := congrArg F70 (by omega)
                  refine zw_4 zr_188_42 rfl ?_
                  refine zw_7 zr_188_44 rfl ?_
                  refine zw_C zr_188_45 (Or.inl rfl) zm_142 rfl rfl ⟨Nat.le_of_ble_eq_true rfl, Nat.le_of_ble_eq_true rfl, Nat.le_of_ble_eq_true rfl, rfl, by decide⟩ (by omega) (P := (fun v m' => zW E (d) 188 48 [(2, 69), (0, a0), (0, a1), (0, i7), (0, i16), (9, 0), (9, 0)] (if v.1 = 9 then [(0, i16)] else v :: [(0, i16)]) m' Q)) ?_ (fun _ _ h => h)
                  generalize hQ1 : (fun v m' => zW E (d) 188 48 [(2, 69), (0, a0), (0, a1), (0, i7), (0, i16), (9, 0), (9, 0)] (if v.1 = 9 then [(0, i16)] else v :: [(0, i16)]) m' Q) = Q1
                  show zW E (d - 1) 142 0 [(2, 69)] [] m17 Q1
                  refine zw_7 zr_142_0 rfl ?_
                  refine zw_46r (s := 70) zr_142_1 rfl rfl rfl rfl ?_
                  refine zw_push zr_142_4 ?_
                  refine zw_48k (c := 70) (len := 826) zr_142_7 rfl rfl (by omega) (by omega) (show (823 : Int).toNat = 823 by omega) km17_70_823 ?_
                  refine zw_R zr_142_8 (by decide) zm_142 (v := (0, g0)) rfl ?_
                  rw [← hQ1]
                  show zW E (d) 188 48 [(2, 69), (0, a0), (0, a1), (0, i7), (0, i16), (9, 0), (9, 0)] [(0, g0), (0, i16)] m17 Q
                  refine zw_41_3 zr_188_48 ?_ ?_
                  · intro h25
                    refine zw_15 (c := 1) (L' := [(2, 69), (0, a0), (0, a1), (0, (i7 + 1)), (0, i16), (9, 0), (9, 0)]) zr_188_180 rfl (by decide) (by omega) rfl ?_
                    refine zw_42 zr_188_183 ?_
                    exact zw_less (L := [(2, 69), (0, a0), (0, a1), (0, (i7 + 1)), (9, 0), (9, 0), (9, 0)]) ⟨Or.inr rfl, Or.inr rfl, Or.inr rfl, Or.inr rfl, Or.inl rfl, Or.inl rfl, Or.inl rfl, trivial⟩ (ihlp33_10 ((i7 + 1)) (f18) m17 hIm17 hFm17  km17_70_823 fm17_70 fm17_81 (by omega) (by omega) (by omega) (zG1_next hv1lp42_19 (by omega) (by omega)) (by omega))
                  · intro h27
                    refine zw_7 zr_188_51 rfl ?_
                    refine zw_4 zr_188_52 rfl ?_
                    refine zw_C zr_188_54 (Or.inl rfl) zm_181 rfl rfl ⟨Nat.le_of_ble_eq_true rfl, Nat.le_of_ble_eq_true rfl, Nat.le_of_ble_eq_true rfl, rfl, by decide⟩ (by omega) (P := (fun v m' => zW E (d) 188 57 [(2, 69), (0, a0), (0, a1), (0, i7), (0, i16), (9, 0), (9, 0)] (if v.1 = 9 then [] else v :: []) m' Q)) ?_ (fun _ _ h => h)
                    generalize hQ1 : (fun v m' => zW E (d) 188 57 [(2, 69), (0, a0), (0, a1), (0, i7), (0, i16), (9, 0), (9, 0)] (if v.1 = 9 then [] else v :: []) m' Q) = Q1
                    show zW E (d - 1) 181 0 [(2, 69), (0, i16)] [] m17 Q1
                    refine zw_7 zr_181_0 rfl ?_
                    refine zw_3 zr_181_1 rfl ?_
                    refine zw_push zr_181_2 ?_
                    refine zw_C zr_181_3 (Or.inl rfl) zm_144 rfl rfl ⟨Nat.le_of_ble_eq_true rfl, Nat.le_of_ble_eq_true rfl, Nat.le_of_ble_eq_true rfl, rfl, by decide⟩ (by omega) (P := (fun v m' => zW E (d - 1) 181 6 [(2, 69), (0, i16)] (if v.1 = 9 then [] else v :: []) m' Q1)) ?_ (fun _ _ h => h)
                    generalize hQ2 : (fun v m' => zW E (d - 1) 181 6 [(2, 69), (0, i16)] (if v.1 = 9 then [] else v :: []) m' Q1) = Q2
                    show zW E (d - 1 - 1) 144 0 [(2, 69), (0, i16), (0, 4)] [] m17 Q2
                    refine zw_7 zr_144_0 rfl ?_
                    refine zw_46r (s := 70) zr_144_1 rfl rfl rfl rfl ?_
                    refine zw_push zr_144_4 ?_
                    refine zw_push zr_144_6 ?_
                    refine zw_3 zr_144_8 rfl ?_
                    refine zw_18 zr_144_9 (by omega) ?_
                    refine zw_16 zr_144_10 (by omega) ?_
                    refine zw_3 zr_144_11 rfl ?_
                    refine zw_16 zr_144_12 (by omega) ?_
                    refine zw_48 (c := 70) (len := 826) zr_144_13 rfl rfl (by omega) (by omega) ?_
                    intro x28 ex28
                    have bx28 := ib_70_m4 hIm17 (k := (((90 + (6 * i16)) + 4)).toNat) (by omega)
                    rw [← ex28] at bx28
                    have qx28 : x28 = F70 (((90 + (6 * i16)) + 4)).toNat := by rw [← fm17_70]; exact ex28
                    clear ex28
                    refine zw_R zr_144_14 (by decide) zm_144 (v := (0, x28)) rfl ?_
                    rw [← hQ2]
                    show zW E (d - 1) 181 6 [(2, 69), (0, i16)] [(0, x28)] m17 Q1
                    refine zw_40_4 zr_181_6 ?_ ?_
                    · intro h29
                      refine zw_push zr_181_22 ?_
                      refine zw_R zr_181_23 (by decide) zm_181 (v := (0, 0)) (zRetB (by omega)) ?_
                      rw [← hQ1]
                      show zW E (d) 188 57 [(2, 69), (0, a0), (0, a1), (0, i7), (0, i16), (9, 0), (9, 0)] [(0, 0)] m17 Q
                      refine zw_40_1 zr_188_57 ?_ ?_
                      · intro h30
                        refine zw_15 (c := 1) (L' := [(2, 69), (0, a0), (0, a1), (0, i7), (0, (i16 + 1)), (9, 0), (9, 0)]) zr_188_174 rfl (by decide) (by omega) rfl ?_
                        refine zw_42 zr_188_177 ?_
                        exact zw_less (L := [(2, 69), (0, a0), (0, a1), (0, i7), (0, (i16 + 1)), (9, 0), (9, 0)]) ⟨Or.inr rfl, Or.inr rfl, Or.inr rfl, Or.inr rfl, Or.inr rfl, Or.inl rfl, Or.inl rfl, trivial⟩ (ihlp42_19 ((i16 + 1)) (f18) m17 hIm17 hFm17  km17_70_823 fm17_70 fm17_81 (by omega) (by omega) (by omega) (by first | exact zG2_put hv1lp42_19 (by omega) (by omega) (by omega) (by omega) (by omega) (by omega) | exact zG2_skip hv1lp42_19 (by omega) (by omega)) (by omega))
                      · intro h32; omega
                    · intro h33
                      refine zw_7 zr_181_9 rfl ?_
                      refine zw_3 zr_181_10 rfl ?_
                      refine zw_push zr_181_11 ?_
                      refine zw_C zr_181_12 (Or.inl rfl) zm_144 rfl rfl ⟨Nat.le_of_ble_eq_true rfl, Nat.le_of_ble_eq_true rfl, Nat.le_of_ble_eq_true rfl, rfl, by decide⟩ (by omega) (P := (fun v m' => zW E (d - 1) 181 15 [(2, 69), (0, i16)] (if v.1 = 9 then [] else v :: []) m' Q1)) ?_ (fun _ _ h => h)
                      generalize hQ2 : (fun v m' => zW E (d - 1) 181 15 [(2, 69), (0, i16)] (if v.1 = 9 then [] else v :: []) m' Q1) = Q2
                      show zW E (d - 1 - 1) 144 0 [(2, 69), (0, i16), (0, 5)] [] m17 Q2
                      refine zw_7 zr_144_0 rfl ?_
                      refine zw_46r (s := 70) zr_144_1 rfl rfl rfl rfl ?_
                      refine zw_push zr_144_4 ?_
                      refine zw_push zr_144_6 ?_
                      refine zw_3 zr_144_8 rfl ?_
                      refine zw_18 zr_144_9 (by omega) ?_
                      refine zw_16 zr_144_10 (by omega) ?_
                      refine zw_3 zr_144_11 rfl ?_
                      refine zw_16 zr_144_12 (by omega) ?_
                      refine zw_48 (c := 70) (len := 826) zr_144_13 rfl rfl (by omega) (by omega) ?_
                      intro x34 ex34
                      have bx34 := ib_70_m5 hIm17 (k := (((90 + (6 * i16)) + 5)).toNat) (by omega)
                      rw [← ex34] at bx34
                      have qx34 : x34 = F70 (((90 + (6 * i16)) + 5)).toNat := by rw [← fm17_70]; exact ex34
                      clear ex34
                      refine zw_R zr_144_14 (by decide) zm_144 (v := (0, x34)) rfl ?_
                      rw [← hQ2]
                      show zW E (d - 1) 181 15 [(2, 69), (0, i16)] [(0, x34)] m17 Q1
                      refine zw_40_4 zr_181_15 ?_ ?_
                      · intro h35
                        refine zw_push zr_181_22 ?_
                        refine zw_R zr_181_23 (by decide) zm_181 (v := (0, 0)) (zRetB (by omega)) ?_
                        rw [← hQ1]
                        show zW E (d) 188 57 [(2, 69), (0, a0), (0, a1), (0, i7), (0, i16), (9, 0), (9, 0)] [(0, 0)] m17 Q
                        refine zw_40_1 zr_188_57 ?_ ?_
                        · intro h36
                          refine zw_15 (c := 1) (L' := [(2, 69), (0, a0), (0, a1), (0, i7), (0, (i16 + 1)), (9, 0), (9, 0)]) zr_188_174 rfl (by decide) (by omega) rfl ?_
                          refine zw_42 zr_188_177 ?_
                          exact zw_less (L := [(2, 69), (0, a0), (0, a1), (0, i7), (0, (i16 + 1)), (9, 0), (9, 0)]) ⟨Or.inr rfl, Or.inr rfl, Or.inr rfl, Or.inr rfl, Or.inr rfl, Or.inl rfl, Or.inl rfl, trivial⟩ (ihlp42_19 ((i16 + 1)) (f18) m17 hIm17 hFm17  km17_70_823 fm17_70 fm17_81 (by omega) (by omega) (by omega) (by first | exact zG2_put hv1lp42_19 (by omega) (by omega) (by omega) (by omega) (by omega) (by omega) | exact zG2_skip hv1lp42_19 (by omega) (by omega)) (by omega))
                        · intro h38; omega
                      · intro h39
                        refine zw_push zr_181_18 ?_
                        refine zw_42 zr_181_19 ?_
                        refine zw_R zr_181_23 (by decide) zm_181 (v := (0, 1)) (zRetB (by omega)) ?_
                        rw [← hQ1]
                        show zW E (d) 188 57 [(2, 69), (0, a0), (0, a1), (0, i7), (0, i16), (9, 0), (9, 0)] [(0, 1)] m17 Q
                        refine zw_40_1 zr_188_57 ?_ ?_
                        · intro h40; omega
                        · intro h41
                          refine zw_4 zr_188_60 rfl ?_
                          refine zw_3 zr_188_62 rfl ?_
                          refine zw_41_1 zr_188_63 ?_ ?_
                          · intro h42
                            refine zw_15 (c := 1) (L' := [(2, 69), (0, a0), (0, a1), (0, i7), (0, (i16 + 1)), (9, 0), (9, 0)]) zr_188_174 rfl (by decide) (by omega) rfl ?_
                            refine zw_42 zr_188_177 ?_
                            exact zw_less (L := [(2, 69), (0, a0), (0, a1), (0, i7), (0, (i16 + 1)), (9, 0), (9, 0)]) ⟨Or.inr rfl, Or.inr rfl, Or.inr rfl, Or.inr rfl, Or.inr rfl, Or.inl rfl, Or.inl rfl, trivial⟩ (ihlp42_19 ((i16 + 1)) (f18) m17 hIm17 hFm17  km17_70_823 fm17_70 fm17_81 (by omega) (by omega) (by omega) (by first | exact zG2_put hv1lp42_19 (by omega) (by omega) (by omega) (by omega) (by omega) (by omega) | exact zG2_skip hv1lp42_19 (by omega) (by omega)) (by omega))
                          · intro h44
                            refine zw_7 zr_188_66 rfl ?_
                            refine zw_4 zr_188_67 rfl ?_
                            refine zw_push zr_188_69 ?_
                            refine zw_C zr_188_70 (Or.inl rfl) zm_144 rfl rfl ⟨Nat.le_of_ble_eq_true rfl, Nat.le_of_ble_eq_true rfl, Nat.le_of_ble_eq_true rfl, rfl, by decide⟩ (by omega) (P := (fun v m' => zW E (d) 188 73 [(2, 69), (0, a0), (0, a1), (0, i7), (0, i16), (9, 0), (9, 0)] (if v.1 = 9 then [] else v :: []) m' Q)) ?_ (fun _ _ h => h)
                            generalize hQ1 : (fun v m' => zW E (d) 188 73 [(2, 69), (0, a0), (0, a1), (0, i7), (0, i16), (9, 0), (9, 0)] (if v.1 = 9 then [] else v :: []) m' Q) = Q1
                            show zW E (d - 1) 144 0 [(2, 69), (0, i16), (0, 1)] [] m17 Q1
                            refine zw_7 zr_144_0 rfl ?_
                            refine zw_46r (s := 70) zr_144_1 rfl rfl rfl rfl ?_
                            refine zw_push zr_144_4 ?_
                            refine zw_push zr_144_6 ?_
                            refine zw_3 zr_144_8 rfl ?_
                            refine zw_18 zr_144_9 (by omega) ?_
                            refine zw_16 zr_144_10 (by omega) ?_
                            refine zw_3 zr_144_11 rfl ?_
                            refine zw_16 zr_144_12 (by omega) ?_
                            refine zw_48 (c := 70) (len := 826) zr_144_13 rfl rfl (by omega) (by omega) ?_
                            intro x45 ex45
                            have bx45 := ib_70_m1 hIm17 (k := (((90 + (6 * i16)) + 1)).toNat) (by omega)
                            rw [← ex45] at bx45
                            have qx45 : x45 = F70 (((90 + (6 * i16)) + 1)).toNat := by rw [← fm17_70]; exact ex45
                            clear ex45
                            refine zw_R zr_144_14 (by decide) zm_144 (v := (0, x45)) rfl ?_
                            rw [← hQ1]
                            show zW E (d) 188 73 [(2, 69), (0, a0), (0, a1), (0, i7), (0, i16), (9, 0), (9, 0)] [(0, x45)] m17 Q
                            refine zw_10 (L' := [(2, 69), (0, a0), (0, a1), (0, i7), (0, i16), (0, x45), (9, 0)]) zr_188_73 (Nat.le_of_ble_eq_true rfl) rfl ?_
                            refine zw_7 zr_188_75 rfl ?_
                            refine zw_4 zr_188_76 rfl ?_
                            refine zw_push zr_188_78 ?_
                            refine zw_C zr_188_79 (Or.inl rfl) zm_144 rfl rfl ⟨Nat.le_of_ble_eq_true rfl, Nat.le_of_ble_eq_true rfl, Nat.le_of_ble_eq_true rfl, rfl, by decide⟩ (by omega) (P := (fun v m' => zW E (d) 188 82 [(2, 69), (0, a0), (0, a1), (0, i7), (0, i16), (0, x45), (9, 0)] (if v.1 = 9 then [] else v :: []) m' Q)) ?_ (fun _ _ h => h)
                            generalize hQ1 : (fun v m' => zW E (d) 188 82 [(2, 69), (0, a0), (0, a1), (0, i7), (0, i16), (0, x45), (9, 0)] (if v.1 = 9 then [] else v :: []) m' Q) = Q1
                            show zW E (d - 1) 144 0 [(2, 69), (0, i16), (0, 2)] [] m17 Q1
                            refine zw_7 zr_144_0 rfl ?_
                            refine zw_46r (s := 70) zr_144_1 rfl rfl rfl rfl ?_
                            refine zw_push zr_144_4 ?_
                            refine zw_push zr_144_6 ?_
                            refine zw_3 zr_144_8 rfl ?_
                            refine zw_18 zr_144_9 (by omega) ?_
                            refine zw_16 zr_144_10 (by omega) ?_
                            refine zw_3 zr_144_11 rfl ?_
                            refine zw_16 zr_144_12 (by omega) ?_
                            refine zw_48 (c := 70) (len := 826) zr_144_13 rfl rfl (by omega) (by omega) ?_
                            intro x46 ex46
                            have bx46 := ib_70_m2 hIm17 (k := (((90 + (6 * i16)) + 2)).toNat) (by omega)
                            rw [← ex46] at bx46
                            have qx46 : x46 = F70 (((90 + (6 * i16)) + 2)).toNat := by rw [← fm17_70]; exact ex46
                            clear ex46
                            refine zw_R zr_144_14 (by decide) zm_144 (v := (0, x46)) rfl ?_
                            rw [← hQ1]
                            show zW E (d) 188 82 [(2, 69), (0, a0), (0, a1), (0, i7), (0, i16), (0, x45), (9, 0)] [(0, x46)] m17 Q
                            refine zw_10 (L' := [(2, 69), (0, a0), (0, a1), (0, i7), (0, i16), (0, x45), (0, x46)]) zr_188_82 (Nat.le_of_ble_eq_true rfl) rfl ?_
                            refine zw_7 zr_188_84 rfl ?_
                            refine zw_46r (s := 81) zr_188_85 rfl rfl rfl rfl ?_
                            refine zw_4 zr_188_88 rfl ?_
                            refine zw_7 zr_188_90 rfl ?_
                            refine zw_46r (s := 81) zr_188_91 rfl rfl rfl rfl ?_
                            refine zw_4 zr_188_94 rfl ?_
                            refine zw_48 (c := 81) (len := 10) zr_188_96 rfl rfl (by omega) (by omega) ?_
                            intro x47 ex47
                            have bx47 := ib_81 hIm17 (k := (x46).toNat) (by omega)
                            rw [← ex47] at bx47
                            have wx47 := zcg (m17 81) (x46).toNat (a0.toNat)
                            have qx47 : x47 = f18 (x46).toNat := by rw [← fm17_81]; exact ex47
                            refine zw_push zr_188_97 ?_
                            refine zw_16 zr_188_98 (by omega) ?_
                            refine zw_7 zr_188_99 rfl ?_
                            refine zw_46r (s := 81) zr_188_100 rfl rfl rfl rfl ?_
                            refine zw_4 zr_188_103 rfl ?_
                            refine zw_48 (c := 81) (len := 10) zr_188_105 rfl rfl (by omega) (by omega) ?_
                            intro x48 ex48
                            have bx48 := ib_81 hIm17 (k := (x45).toNat) (by omega)
                            rw [← ex48] at bx48
                            have wx48 := zcg (m17 81) (x45).toNat (a0.toNat)
                            have qx48 : x48 = f18 (x45).toNat := by rw [← fm17_81]; exact ex48
                            refine zw_41_3 zr_188_106 ?_ ?_
                            · intro h49
                              refine zw_7 zr_188_121 rfl ?_
                              refine zw_46r (s := 81) zr_188_122 rfl rfl rfl rfl ?_
                              refine zw_4 zr_188_125 rfl ?_
                              refine zw_48k (c := 81) (len := 10) zr_188_127 rfl rfl (by omega) (by omega) rfl ex48.symm ?_
                              refine zw_49 (c := 81) (len := 10) zr_188_128 rfl rfl (by omega) (by omega) ?_
                              intro m50 em50
                              have hIm50 : zInv m50 := by rw [em50]; exact iu_81 hIm17 (by omega)
                              have hFm50 : zFr W_188 m0 m50 := by rw [em50]; exact hFm17.any rfl
                              have km50_70_823 : m50 70 823 = g0 := by rw [em50, zUp_ne (by omega)]; exact km17_70_823
                              have w0m50 : ((a0.toNat) = (x45).toNat ∧ m50 81 (a0.toNat) = x48) ∨ ((a0.toNat) ≠ (x45).toNat ∧ m50 81 (a0.toNat) = m17 81 (a0.toNat)) := by rw [em50]; exact zUp_w _ _ _ _ _
                              have fm50_70 : m50 70 = F70 := by rw [em50, zUp_fn (by decide)]; exact fm17_70
                              have fm50_81 : m50 81 = zPt f18 ((x45).toNat) x48 := by rw [em50]; exact (zUp_ff (m := m17)).trans (congrArg (fun q => zPt q ((x45).toNat) x48) fm17_81)
                              clear em50
                              refine zw_7 zr_188_129 rfl ?_
                              refine zw_46r (s := 81) zr_188_130 rfl rfl rfl rfl ?_
                              refine zw_4 zr_188_133 rfl ?_
                              refine zw_7 zr_188_135 rfl ?_
                              refine zw_46r (s := 81) zr_188_136 rfl rfl rfl rfl ?_
                              refine zw_4 zr_188_139 rfl ?_
                              refine zw_48 (c := 81) (len := 10) zr_188_141 rfl rfl (by omega) (by omega) ?_
                              intro x51 ex51
                              have bx51 := ib_81 hIm50 (k := (x45).toNat) (by omega)
                              rw [← ex51] at bx51
                              have wx51 := zcg (m50 81) (x45).toNat (a0.toNat)
                              have qx51 : x51 = (zPt f18 ((x45).toNat) x48) (x45).toNat := by rw [← fm50_81]; exact ex51
                              refine zw_push zr_188_142 ?_
                              refine zw_16 zr_188_143 (by omega) ?_
                              refine zw_7 zr_188_144 rfl ?_
                              refine zw_46r (s := 81) zr_188_145 rfl rfl rfl rfl ?_
                              refine zw_4 zr_188_148 rfl ?_
                              refine zw_48 (c := 81) (len := 10) zr_188_150 rfl rfl (by omega) (by omega) ?_
                              intro x52 ex52
                              have bx52 := ib_81 hIm50 (k := (x46).toNat) (by omega)
                              rw [← ex52] at bx52
                              have wx52 := zcg (m50 81) (x46).toNat (a0.toNat)
                              have qx52 : x52 = (zPt f18 ((x45).toNat) x48) (x46).toNat := by rw [← fm50_81]; exact ex52
                              refine zw_41_3 zr_188_151 ?_ ?_
                              · intro h53
                                refine zw_7 zr_188_166 rfl ?_
                                refine zw_46r (s := 81) zr_188_167 rfl rfl rfl rfl ?_
                                refine zw_4 zr_188_170 rfl ?_
                                refine zw_48k (c := 81) (len := 10) zr_188_172 rfl rfl (by omega) (by omega) rfl ex52.symm ?_
                                refine zw_49 (c := 81) (len := 10) zr_188_173 rfl rfl (by omega) (by omega) ?_
                                intro m54 em54
                                have hIm54 : zInv m54 := by rw [em54]; exact iu_81 hIm50 (by omega)
                                have hFm54 : zFr W_188 m0 m54 := by rw [em54]; exact hFm50.any rfl
                                have km54_70_823 : m54 70 823 = g0 := by rw [em54, zUp_ne (by omega)]; exact km50_70_823
                                have w0m54 : ((a0.toNat) = (x46).toNat ∧ m54 81 (a0.toNat) = x52) ∨ ((a0.toNat) ≠ (x46).toNat ∧ m54 81 (a0.toNat) = m50 81 (a0.toNat)) := by rw [em54]; exact zUp_w _ _ _ _ _
                                have fm54_70 : m54 70 = F70 := by rw [em54, zUp_fn (by decide)]; exact fm50_70
                                have fm54_81 : m54 81 = zPt (zPt f18 ((x45).toNat) x48) ((x46).toNat) x52 := by rw [em54]; exact (zUp_ff (m := m50)).trans (congrArg (fun q => zPt q ((x46).toNat) x52) fm50_81)
                                clear em54
                                refine zw_15 (c := 1) (L' := [(2, 69), (0, a0), (0, a1), (0, i7), (0, (i16 + 1)), (0, x45), (0, x46)]) zr_188_174 rfl (by decide) (by omega) rfl ?_
                                refine zw_42 zr_188_177 ?_
                                exact zw_less (L := [(2, 69), (0, a0), (0, a1), (0, i7), (0, (i16 + 1)), (9, 0), (9, 0)]) ⟨Or.inr rfl, Or.inr rfl, Or.inr rfl, Or.inr rfl, Or.inr rfl, Or.inl rfl, Or.inl rfl, trivial⟩ (ihlp42_19 ((i16 + 1)) (zPt (zPt f18 ((x45).toNat) x48) ((x46).toNat) x52) m54 hIm54 hFm54  km54_70_823 fm54_70 fm54_81 (by omega) (by omega) (by omega) (by first | exact zG2_put hv1lp42_19 (by omega) (by omega) (by omega) (by omega) (by omega) (by omega) | exact zG2_skip hv1lp42_19 (by omega) (by omega)) (by omega))
                              · intro h56
                                refine zw_7 zr_188_154 rfl ?_
                                refine zw_46r (s := 81) zr_188_155 rfl rfl rfl rfl ?_
                                refine zw_4 zr_188_158 rfl ?_
                                refine zw_48k (c := 81) (len := 10) zr_188_160 rfl rfl (by omega) (by omega) rfl ex51.symm ?_
                                refine zw_push zr_188_161 ?_
                                refine zw_16 zr_188_162 (by omega) ?_
                                refine zw_42 zr_188_163 ?_
                                refine zw_49 (c := 81) (len := 10) zr_188_173 rfl rfl (by omega) (by omega) ?_
                                intro m57 em57
                                have hIm57 : zInv m57 := by rw [em57]; exact iu_81 hIm50 (by omega)
                                have hFm57 : zFr W_188 m0 m57 := by rw [em57]; exact hFm50.any rfl
                                have km57_70_823 : m57 70 823 = g0 := by rw [em57, zUp_ne (by omega)]; exact km50_70_823
                                have w0m57 : ((a0.toNat) = (x46).toNat ∧ m57 81 (a0.toNat) = (x51 + 1)) ∨ ((a0.toNat) ≠ (x46).toNat ∧ m57 81 (a0.toNat) = m50 81 (a0.toNat)) := by rw [em57]; exact zUp_w _ _ _ _ _
                                have fm57_70 : m57 70 = F70 := by rw [em57, zUp_fn (by decide)]; exact fm50_70
                                have fm57_81 : m57 81 = zPt (zPt f18 ((x45).toNat) x48) ((x46).toNat) ((x51 + 1)) := by rw [em57]; exact (zUp_ff (m := m50)).trans (congrArg (fun q => zPt q ((x46).toNat) ((x51 + 1))) fm50_81)
                                clear em57
                                refine zw_15 (c := 1) (L' := [(2, 69), (0, a0), (0, a1), (0, i7), (0, (i16 + 1)), (0, x45), (0, x46)]) zr_188_174 rfl (by decide) (by omega) rfl ?_
                                refine zw_42 zr_188_177 ?_
                                exact zw_less (L := [(2, 69), (0, a0), (0, a1), (0, i7), (0, (i16 + 1)), (9, 0), (9, 0)]) ⟨Or.inr rfl, Or.inr rfl, Or.inr rfl, Or.inr rfl, Or.inr rfl, Or.inl rfl, Or.inl rfl, trivial⟩ (ihlp42_19 ((i16 + 1)) (zPt (zPt f18 ((x45).toNat) x48) ((x46).toNat) ((x51 + 1))) m57 hIm57 hFm57  km57_70_823 fm57_70 fm57_81 (by omega) (by omega) (by omega) (by first | exact zG2_put hv1lp42_19 (by omega) (by omega) (by omega) (by omega) (by omega) (by omega) | exact zG2_skip hv1lp42_19 (by omega) (by omega)) (by omega))
                            · intro h59
                              refine zw_7 zr_188_109 rfl ?_
                              refine zw_46r (s := 81) zr_188_110 rfl rfl rfl rfl ?_
                              refine zw_4 zr_188_113 rfl ?_
                              refine zw_48k (c := 81) (len := 10) zr_188_115 rfl rfl (by omega) (by omega) rfl ex47.symm ?_
                              refine zw_push zr_188_116 ?_
                              refine zw_16 zr_188_117 (by omega) ?_
                              refine zw_42 zr_188_118 ?_
                              refine zw_49 (c := 81) (len := 10) zr_188_128 rfl rfl (by omega) (by omega) ?_
                              intro m60 em60
                              have hIm60 : zInv m60 := by rw [em60]; exact iu_81 hIm17 (by omega)
                              have hFm60 : zFr W_188 m0 m60 := by rw [em60]; exact hFm17.any rfl
                              have km60_70_823 : m60 70 823 = g0 := by rw [em60, zUp_ne (by omega)]; exact km17_70_823
                              have w0m60 : ((a0.toNat) = (x45).toNat ∧ m60 81 (a0.toNat) = (x47 + 1)) ∨ ((a0.toNat) ≠ (x45).toNat ∧ m60 81 (a0.toNat) = m17 81 (a0.toNat)) := by rw [em60]; exact zUp_w _ _ _ _ _
                              have fm60_70 : m60 70 = F70 := by rw [em60, zUp_fn (by decide)]; exact fm17_70
                              have fm60_81 : m60 81 = zPt f18 ((x45).toNat) ((x47 + 1)) := by rw [em60]; exact (zUp_ff (m := m17)).trans (congrArg (fun q => zPt q ((x45).toNat) ((x47 + 1))) fm17_81)
                              clear em60
                              refine zw_7 zr_188_129 rfl ?_
                              refine zw_46r (s := 81) zr_188_130 rfl rfl rfl rfl ?_
                              refine zw_4 zr_188_133 rfl ?_
                              refine zw_7 zr_188_135 rfl ?_
                              refine zw_46r (s := 81) zr_188_136 rfl rfl rfl rfl ?_
                              refine zw_4 zr_188_139 rfl ?_
                              refine zw_48 (c := 81) (len := 10) zr_188_141 rfl rfl (by omega) (by omega) ?_
                              intro x61 ex61
                              have bx61 := ib_81 hIm60 (k := (x45).toNat) (by omega)
                              rw [← ex61] at bx61
                              have wx61 := zcg (m60 81) (x45).toNat (a0.toNat)
                              have qx61 : x61 = (zPt f18 ((x45).toNat) ((x47 + 1))) (x45).toNat := by rw [← fm60_81]; exact ex61
                              refine zw_push zr_188_142 ?_
                              refine zw_16 zr_188_143 (by omega) ?_
                              refine zw_7 zr_188_144 rfl ?_
                              refine zw_46r (s := 81) zr_188_145 rfl rfl rfl rfl ?_
                              refine zw_4 zr_188_148 rfl ?_
                              refine zw_48 (c := 81) (len := 10) zr_188_150 rfl rfl (by omega) (by omega) ?_
                              intro x62 ex62
                              have bx62 := ib_81 hIm60 (k := (x46).toNat) (by omega)
                              rw [← ex62] at bx62
                              have wx62 := zcg (m60 81) (x46).toNat (a0.toNat)
                              have qx62 : x62 = (zPt f18 ((x45).toNat) ((x47 + 1))) (x46).toNat := by rw [← fm60_81]; exact ex62
                              refine zw_41_3 zr_188_151 ?_ ?_
                              · intro h63
                                refine zw_7 zr_188_166 rfl ?_
                                refine zw_46r (s := 81) zr_188_167 rfl rfl rfl rfl ?_
                                refine zw_4 zr_188_170 rfl ?_
                                refine zw_48k (c := 81) (len := 10) zr_188_172 rfl rfl (by omega) (by omega) rfl ex62.symm ?_
                                refine zw_49 (c := 81) (len := 10) zr_188_173 rfl rfl (by omega) (by omega) ?_
                                intro m64 em64
                                have hIm64 : zInv m64 := by rw [em64]; exact iu_81 hIm60 (by omega)
                                have hFm64 : zFr W_188 m0 m64 := by rw [em64]; exact hFm60.any rfl
                                have km64_70_823 : m64 70 823 = g0 := by rw [em64, zUp_ne (by omega)]; exact km60_70_823
                                have w0m64 : ((a0.toNat) = (x46).toNat ∧ m64 81 (a0.toNat) = x62) ∨ ((a0.toNat) ≠ (x46).toNat ∧ m64 81 (a0.toNat) = m60 81 (a0.toNat)) := by rw [em64]; exact zUp_w _ _ _ _ _
                                have fm64_70 : m64 70 = F70 := by rw [em64, zUp_fn (by decide)]; exact fm60_70
                                have fm64_81 : m64 81 = zPt (zPt f18 ((x45).toNat) ((x47 + 1))) ((x46).toNat) x62 := by rw [em64]; exact (zUp_ff (m := m60)).trans (congrArg (fun q => zPt q ((x46).toNat) x62) fm60_81)
                                clear em64
                                refine zw_15 (c := 1) (L' := [(2, 69), (0, a0), (0, a1), (0, i7), (0, (i16 + 1)), (0, x45), (0, x46)]) zr_188_174 rfl (by decide) (by omega) rfl ?_
                                refine zw_42 zr_188_177 ?_
                                exact zw_less (L := [(2, 69), (0, a0), (0, a1), (0, i7), (0, (i16 + 1)), (9, 0), (9, 0)]) ⟨Or.inr rfl, Or.inr rfl, Or.inr rfl, Or.inr rfl, Or.inr rfl, Or.inl rfl, Or.inl rfl, trivial⟩ (ihlp42_19 ((i16 + 1)) (zPt (zPt f18 ((x45).toNat) ((x47 + 1))) ((x46).toNat) x62) m64 hIm64 hFm64  km64_70_823 fm64_70 fm64_81 (by omega) (by omega) (by omega) (by first | exact zG2_put hv1lp42_19 (by omega) (by omega) (by omega) (by omega) (by omega) (by omega) | exact zG2_skip hv1lp42_19 (by omega) (by omega)) (by omega))
                              · intro h66
                                refine zw_7 zr_188_154 rfl ?_
                                refine zw_46r (s := 81) zr_188_155 rfl rfl rfl rfl ?_
                                refine zw_4 zr_188_158 rfl ?_
                                refine zw_48k (c := 81) (len := 10) zr_188_160 rfl rfl (by omega) (by omega) rfl ex61.symm ?_
                                refine zw_push zr_188_161 ?_
                                refine zw_16 zr_188_162 (by omega) ?_
                                refine zw_42 zr_188_163 ?_
                                refine zw_49 (c := 81) (len := 10) zr_188_173 rfl rfl (by omega) (by omega) ?_
                                intro m67 em67
                                have hIm67 : zInv m67 := by rw [em67]; exact iu_81 hIm60 (by omega)
                                have hFm67 : zFr W_188 m0 m67 := by rw [em67]; exact hFm60.any rfl
                                have km67_70_823 : m67 70 823 = g0 := by rw [em67, zUp_ne (by omega)]; exact km60_70_823
                                have w0m67 : ((a0.toNat) = (x46).toNat ∧ m67 81 (a0.toNat) = (x61 + 1)) ∨ ((a0.toNat) ≠ (x46).toNat ∧ m67 81 (a0.toNat) = m60 81 (a0.toNat)) := by rw [em67]; exact zUp_w _ _ _ _ _
                                have fm67_70 : m67 70 = F70 := by rw [em67, zUp_fn (by decide)]; exact fm60_70
                                have fm67_81 : m67 81 = zPt (zPt f18 ((x45).toNat) ((x47 + 1))) ((x46).toNat) ((x61 + 1)) := by rw [em67]; exact (zUp_ff (m := m60)).trans (congrArg (fun q => zPt q ((x46).toNat) ((x61 + 1))) fm60_81)
                                clear em67
                                refine zw_15 (c := 1) (L' := [(2, 69), (0, a0), (0, a1), (0, i7), (0, (i16 + 1)), (0, x45), (0, x46)]) zr_188_174 rfl (by decide) (by omega) rfl ?_
                                refine zw_42 zr_188_177 ?_
                                exact zw_less (L := [(2, 69), (0, a0), (0, a1), (0, i7), (0, (i16 + 1)), (9, 0), (9, 0)]) ⟨Or.inr rfl, Or.inr rfl, Or.inr rfl, Or.inr rfl, Or.inr rfl, Or.inl rfl, Or.inl rfl, trivial⟩ (ihlp42_19 ((i16 + 1)) (zPt (zPt f18 ((x45).toNat) ((x47 + 1))) ((x46).toNat) ((x61 + 1))) m67 hIm67 hFm67  km67_70_823 fm67_70 fm67_81 (by omega) (by omega) (by omega) (by first | exact zG2_put hv1lp42_19 (by omega) (by omega) (by omega) (by omega) (by omega) (by omega) | exact zG2_skip hv1lp42_19 (by omega) (by omega)) (by omega))
              exact lp42_19 _ (0) (f9) m8 hIm8 hFm8  km8_70_823 fm8_70 fm8_81 (by omega) (by omega) (by omega) (zG2_0 hv1lp33_10) (Nat.lt_succ_self _)
        exact lp33_10 _ (0) (f3) m2 hIm2 hFm2  km2_70_823 fm2_70 fm2_81 (by omega) (by omega) (by omega) (zG1_0 hv1lp2_4 (by omega) (by omega)) (Nat.lt_succ_self _)
      · intro h71
        refine zw_7 zr_188_8 rfl ?_
        refine zw_46r (s := 81) zr_188_9 rfl rfl rfl rfl ?_
        refine zw_3 zr_188_12 rfl ?_
        refine zw_3 zr_188_13 rfl ?_
        refine zw_3 zr_188_14 rfl ?_
        refine zw_41_4 zr_188_15 ?_ ?_
        · intro h72
          refine zw_push zr_188_22 ?_
          refine zw_49 (c := 81) (len := 10) zr_188_24 rfl rfl (by omega) (by omega) ?_
          intro m73 em73
          have hIm73 : zInv m73 := by rw [em73]; exact iu_81 hIm2 (by omega)
          have hFm73 : zFr W_188 m0 m73 := by rw [em73]; exact hFm2.any rfl
          have km73_70_823 : m73 70 823 = g0 := by rw [em73, zUp_ne (by omega)]; exact km2_70_823
          have w0m73 : ((a0.toNat) = (i1).toNat ∧ m73 81 (a0.toNat) = 100000000) ∨ ((a0.toNat) ≠ (i1).toNat ∧ m73 81 (a0.toNat) = m2 81 (a0.toNat)) := by rw [em73]; exact zUp_w _ _ _ _ _
          have fm73_70 : m73 70 = F70 := by rw [em73, zUp_fn (by decide)]; exact fm2_70
          have fm73_81 : m73 81 = zPt f3 ((i1).toNat) 100000000 := by rw [em73]; exact (zUp_ff (m := m2)).trans (congrArg (fun q => zPt q ((i1).toNat) 100000000) fm2_81)
          clear em73
          refine zw_15 (c := 1) (L' := [(2, 69), (0, a0), (0, a1), (0, (i1 + 1)), (9, 0), (9, 0), (9, 0)]) zr_188_25 rfl (by decide) (by omega) rfl ?_
          refine zw_42 zr_188_28 ?_
          exact zw_less (L := [(2, 69), (0, a0), (0, a1), (0, (i1 + 1)), (9, 0), (9, 0), (9, 0)]) ⟨Or.inr rfl, Or.inr rfl, Or.inr rfl, Or.inr rfl, Or.inl rfl, Or.inl rfl, Or.inl rfl, trivial⟩ (ihlp2_4 ((i1 + 1)) (zPt f3 ((i1).toNat) 100000000) m73 hIm73 hFm73  km73_70_823 fm73_70 fm73_81 (by omega) (by omega) (by omega) (zG0_put hv1lp2_4 (by omega) (by omega)) (by omega))
        · intro h75
          refine zw_push zr_188_18 ?_
          refine zw_42 zr_188_19 ?_
          refine zw_49 (c := 81) (len := 10) zr_188_24 rfl rfl (by omega) (by omega) ?_
          intro m76 em76
          have hIm76 : zInv m76 := by rw [em76]; exact iu_81 hIm2 (by omega)
          have hFm76 : zFr W_188 m0 m76 := by rw [em76]; exact hFm2.any rfl
          have km76_70_823 : m76 70 823 = g0 := by rw [em76, zUp_ne (by omega)]; exact km2_70_823
          have w0m76 : ((a0.toNat) = (i1).toNat ∧ m76 81 (a0.toNat) = 0) ∨ ((a0.toNat) ≠ (i1).toNat ∧ m76 81 (a0.toNat) = m2 81 (a0.toNat)) := by rw [em76]; exact zUp_w _ _ _ _ _
          have fm76_70 : m76 70 = F70 := by rw [em76, zUp_fn (by decide)]; exact fm2_70
          have fm76_81 : m76 81 = zPt f3 ((i1).toNat) 0 := by rw [em76]; exact (zUp_ff (m := m2)).trans (congrArg (fun q => zPt q ((i1).toNat) 0) fm2_81)
          clear em76
          refine zw_15 (c := 1) (L' := [(2, 69), (0, a0), (0, a1), (0, (i1 + 1)), (9, 0), (9, 0), (9, 0)]) zr_188_25 rfl (by decide) (by omega) rfl ?_
          refine zw_42 zr_188_28 ?_
          exact zw_less (L := [(2, 69), (0, a0), (0, a1), (0, (i1 + 1)), (9, 0), (9, 0), (9, 0)]) ⟨Or.inr rfl, Or.inr rfl, Or.inr rfl, Or.inr rfl, Or.inl rfl, Or.inl rfl, Or.inl rfl, trivial⟩ (ihlp2_4 ((i1 + 1)) (zPt f3 ((i1).toNat) 0) m76 hIm76 hFm76  km76_70_823 fm76_70 fm76_81 (by omega) (by omega) (by omega) (zG0_put hv1lp2_4 (by omega) (by omega)) (by omega))
  exact lp2_4 _ (0) (F81) m0 hI0 hF0  hg0 hG70 hG81 (by omega) (by omega) (by omega) (zG0_0) (Nat.lt_succ_self _)

abbrev W_189 : List (Nat × Nat) := [(81, 1000)]
set_option maxHeartbeats 8000000 in
theorem th_189 {E : zE} {d : Nat} {m0 : zM} {a0 : Int} {g0 : Int} {F70 : Nat → Int} {F81 : Nat → Int} (hd : 4 ≤ d) (hI0 : zInv m0) (hg0 : m0 70 823 = g0) (hG70 : m0 70 = F70) (hG81 : m0 81 = F81) (ha0 : 0 ≤ a0 ∧ a0 ≤ 9) : zC E d 189 [(2, 69), (0, a0)] m0 (fun v m' => ∃ r : Int, v = (0, r) ∧ 0 ≤ r ∧ r ≤ 9 ∧ zInv m' ∧ zFr W_189 m0 m' ∧ (zLs (edr F70 g0 (-1)) a0 r)) := by
  have hF0 : zFr W_189 m0 m0 := zFr.rfl
  have bg0 : 0 ≤ m0 70 823 ∧ m0 70 823 ≤ 60 := ib_70_meetings hI0 (by omega)
  rw [hg0] at bg0
  generalize hQ : (fun (v : zV) (m' : zM) => ∃ r : Int, v = (0, r) ∧ 0 ≤ r ∧ r ≤ 9 ∧ zInv m' ∧ zFr W_189 m0 m' ∧ (zLs (edr F70 g0 (-1)) a0 r)) = Q
  show zW E d 189 0 [(2, 69), (0, a0), (9, 0)] [] m0 Q
  refine zw_7 zr_189_0 rfl ?_
  refine zw_3 zr_189_1 rfl ?_
  refine zw_push zr_189_2 ?_
  refine zw_C zr_189_3 (Or.inl rfl) zm_188 rfl rfl ⟨Nat.le_of_ble_eq_true rfl, Nat.le_of_ble_eq_true rfl, Nat.le_of_ble_eq_true rfl, rfl, by decide⟩ (by omega) (th_188 (d := d - 1) (by omega) hI0 (a0 := a0) (a1 := (-1)) (g0 := g0)  (F70 := F70) (F81 := F81) hg0 hG70 hG81 (by omega) (by omega) ) ?_
  rintro _ m1 ⟨rfl, hIm1, gm1, po0_m1, po1_m1⟩
  have hFm1 : zFr W_189 m0 m1 := hF0.trans gm1 rfl
  have km1_70_823 : m1 70 823 = g0 := (gm1 70 823 rfl).trans hg0
  have fm1_70 : m1 70 = F70 := (funext fun k => gm1 70 k rfl).trans hG70
  obtain ⟨f2, fm1_81⟩ : ∃ f, m1 81 = f := ⟨_, rfl⟩
  try rw [fm1_81] at po0_m1
  try rw [fm1_81] at po1_m1
  show zW E (d) 189 6 [(2, 69), (0, a0), (9, 0)] [] m1 Q
  refine zw_push zr_189_6 ?_
  refine zw_9 (L' := [(2, 69), (0, a0), (0, 0)]) zr_189_7 (Nat.le_of_ble_eq_true rfl) rfl ?_
  have lp8_4 : ∀ (nlp8_4 : Nat) (i3 : Int), 0 ≤ i3 → i3 ≤ 9 → (i3 ≤ a0) → (zGe f2 i3) → (10 - i3).toNat < nlp8_4 → zW E (d) 189 8 [(2, 69), (0, a0), (0, i3)] [] m1 Q := by
    intro nlp8_4
    induction nlp8_4 with
    | zero =>
      intros
      exact absurd (by assumption : _ < 0) (Nat.not_lt_zero _)
    | succ nlp8_4 ihlp8_4 =>
      intro i3 li3 ui3 hv0lp8_4 hv1lp8_4 hmlp8_4
      refine zw_7 zr_189_8 rfl ?_
      refine zw_46r (s := 81) zr_189_9 rfl rfl rfl rfl ?_
      refine zw_3 zr_189_12 rfl ?_
      refine zw_48 (c := 81) (len := 10) zr_189_13 rfl rfl (by omega) (by omega) ?_
      intro x6 ex6
      have bx6 := ib_81 hIm1 (k := (i3).toNat) (by omega)
      rw [← ex6] at bx6
      have wx6 := zcg (m1 81) (i3).toNat (a0.toNat)
      have qx6 : x6 = f2 (i3).toNat := by rw [← fm1_81]; exact ex6
      have z7 := zcg f2 (i3).toNat (a0.toNat)
      refine zw_push zr_189_14 ?_
      refine zw_41_0 zr_189_16 ?_ ?_
      · intro h8
        refine zw_3 zr_189_25 rfl ?_
        refine zw_R zr_189_26 (by decide) zm_189 (v := (0, i3)) rfl ?_
        rw [← hQ]; exact ⟨_, rfl, by omega, by omega, hIm1, hFm1, zLs_r (by assumption) hv1lp8_4 (by omega) qx6 (by omega)⟩
      · intro h10
        refine zw_15 (c := 1) (L' := [(2, 69), (0, a0), (0, (i3 + 1))]) zr_189_19 rfl (by decide) (by omega) rfl ?_
        refine zw_42 zr_189_22 ?_
        exact zw_less (L := [(2, 69), (0, a0), (0, (i3 + 1))]) ⟨Or.inr rfl, Or.inr rfl, Or.inr rfl, trivial⟩ (ihlp8_4 ((i3 + 1))  (by omega) (by omega) (by omega) (zGe_s hv1lp8_4 (by omega) qx6 (by omega)) (by omega))
  exact lp8_4 _ (0)  (by omega) (by omega) (by omega) (zGe_0) (Nat.lt_succ_self _)

abbrev W_190 : List (Nat × Nat) := [(81, 1000)]
set_option maxHeartbeats 8000000 in
theorem th_190 {E : zE} {d : Nat} {m0 : zM} {a0 : Int} {g0 : Int} {g1 : Int} {F70 : Nat → Int} (hd : 5 ≤ d) (hI0 : zInv m0) (hg0 : m0 70 822 = g0) (hg1 : m0 70 823 = g1) (hG70 : m0 70 = F70) (ha0 : (-2147483648) ≤ a0 ∧ a0 ≤ 2147483647) : zC E d 190 [(2, 69), (0, a0)] m0 (fun v m' => ∃ r : Int, v = (0, r) ∧ (-2) ≤ r ∧ r ≤ 10 ∧ zInv m' ∧ zFr W_190 m0 m' ∧ ((a0 = -1 ∧ r = isl (edr F70 g1 (-1)) g0.toNat) ∨ ((0 ≤ a0 ∧ a0 < g0) ∧ 0 ≤ r ∧ zLs (edr F70 g1 (-1)) a0 r) ∨ ((a0 < -1 ∨ g0 ≤ a0) ∧ r = -2))) := by
  have hF0 : zFr W_190 m0 m0 := zFr.rfl
  have bg0 : 0 ≤ m0 70 822 ∧ m0 70 822 ≤ 10 := ib_70_players hI0 (by omega)
  rw [hg0] at bg0
  have bg1 : 0 ≤ m0 70 823 ∧ m0 70 823 ≤ 60 := ib_70_meetings hI0 (by omega)
  rw [hg1] at bg1
  generalize hQ : (fun (v : zV) (m' : zM) => ∃ r : Int, v = (0, r) ∧ (-2) ≤ r ∧ r ≤ 10 ∧ zInv m' ∧ zFr W_190 m0 m' ∧ ((a0 = -1 ∧ r = isl (edr F70 g1 (-1)) g0.toNat) ∨ ((0 ≤ a0 ∧ a0 < g0) ∧ 0 ≤ r ∧ zLs (edr F70 g1 (-1)) a0 r) ∨ ((a0 < -1 ∨ g0 ≤ a0) ∧ r = -2))) = Q
  show zW E d 190 0 [(2, 69), (0, a0), (9, 0), (9, 0)] [] m0 Q
  refine zw_3 zr_190_0 rfl ?_
  refine zw_push zr_190_1 ?_
  refine zw_41_1 zr_190_2 ?_ ?_
  · intro h1
    refine zw_3 zr_190_16 rfl ?_
    refine zw_push zr_190_17 ?_
    refine zw_41_1 zr_190_18 ?_ ?_
    · intro h2
      refine zw_push zr_190_27 ?_
      refine zw_9 (L' := [(2, 69), (0, a0), (0, 0), (9, 0)]) zr_190_28 (Nat.le_of_ble_eq_true rfl) rfl ?_
      refine zw_push zr_190_29 ?_
      refine zw_9 (L' := [(2, 69), (0, a0), (0, 0), (0, 0)]) zr_190_30 (Nat.le_of_ble_eq_true rfl) rfl ?_
      have lp31_6 : ∀ (nlp31_6 : Nat) (i3 i4 : Int) (m5 : zM), zInv m5 → zFr W_190 m0 m5 → m5 70 822 = g0 → m5 70 823 = g1 → m5 70 = F70 → 0 ≤ i3 → i3 ≤ 10 → 0 ≤ i4 → i4 ≤ 10 → (i3 = isl (edr F70 g1 (-1)) (i4).toNat) → (i3 ≤ i4 ∧ i4 ≤ g0) → (10 - i4).toNat < nlp31_6 → zW E (d) 190 31 [(2, 69), (0, a0), (0, i3), (0, i4)] [] m5 Q := by
        intro nlp31_6
        induction nlp31_6 with
        | zero =>
          intros
          exact absurd (by assumption : _ < 0) (Nat.not_lt_zero _)
        | succ nlp31_6 ihlp31_6 =>
          intro i3 i4 m5 hIm5 hFm5 km5_70_822 km5_70_823 fm5_70 li3 ui3 li4 ui4 hv0lp31_6 hv1lp31_6 hmlp31_6
          refine zw_3 zr_190_31 rfl ?_
          refine zw_7 zr_190_32 rfl ?_
          refine zw_C zr_190_33 (Or.inl rfl) zm_141 rfl rfl ⟨Nat.le_of_ble_eq_true rfl, Nat.le_of_ble_eq_true rfl, Nat.le_of_ble_eq_true rfl, rfl, by decide⟩ (by omega) (P := (fun v m' => zW E (d) 190 36 [(2, 69), (0, a0), (0, i3), (0, i4)] (if v.1 = 9 then [(0, i4)] else v :: [(0, i4)]) m' Q)) ?_ (fun _ _ h => h)
          generalize hQ1 : (fun v m' => zW E (d) 190 36 [(2, 69), (0, a0), (0, i3), (0, i4)] (if v.1 = 9 then [(0, i4)] else v :: [(0, i4)]) m' Q) = Q1
          show zW E (d - 1) 141 0 [(2, 69)] [] m5 Q1
          refine zw_7 zr_141_0 rfl ?_
          refine zw_46r (s := 70) zr_141_1 rfl rfl rfl rfl ?_
          refine zw_push zr_141_4 ?_
          refine zw_48k (c := 70) (len := 826) zr_141_7 rfl rfl (by omega) (by omega) (show (822 : Int).toNat = 822 by omega) km5_70_822 ?_
          refine zw_R zr_141_8 (by decide) zm_141 (v := (0, g0)) rfl ?_
          rw [← hQ1]
          show zW E (d) 190 36 [(2, 69), (0, a0), (0, i3), (0, i4)] [(0, g0), (0, i4)] m5 Q
          refine zw_41_3 zr_190_36 ?_ ?_
          · intro h8
            refine zw_3 zr_190_62 rfl ?_
            refine zw_R zr_190_63 (by decide) zm_190 (v := (0, i3)) rfl ?_
            rw [← hQ]; exact ⟨_, rfl, by omega, by omega, hIm5, hFm5, by first | exact Or.inl ⟨by omega, by have z := hv0lp31_6; rw [show (i4).toNat = g0.toNat by omega] at z; exact z⟩ | exact Or.inr (Or.inl ⟨by omega, by omega, zz⟩) | exact Or.inr (Or.inr ⟨by omega, rfl⟩)⟩
          · intro h10
            refine zw_3 zr_190_39 rfl ?_
            refine zw_7 zr_190_40 rfl ?_
            refine zw_3 zr_190_41 rfl ?_
            refine zw_C zr_190_42 (Or.inl rfl) zm_189 rfl rfl ⟨Nat.le_of_ble_eq_true rfl, Nat.le_of_ble_eq_true rfl, Nat.le_of_ble_eq_true rfl, rfl, by decide⟩ (by omega) (th_189 (d := d - 1) (by omega) hIm5 (a0 := i4) (g0 := g1)  (F70 := F70) (F81 := m5 81) km5_70_823 fm5_70 rfl (by omega) ) ?_
            rintro _ m11 ⟨r12, rfl, hr12a, hr12b, hIm11, gm11, po0_r12⟩
            have hFm11 : zFr W_190 m0 m11 := hFm5.trans gm11 rfl
            have km11_70_822 : m11 70 822 = g0 := (gm11 70 822 rfl).trans km5_70_822
            have km11_70_823 : m11 70 823 = g1 := (gm11 70 823 rfl).trans km5_70_823
            have fm11_70 : m11 70 = F70 := (funext fun k => gm11 70 k rfl).trans fm5_70
            show zW E (d) 190 45 [(2, 69), (0, a0), (0, i3), (0, i4)] [(0, r12), (0, i3)] m11 Q
            have z13 := isl_r po0_r12 (by omega) (by omega : 0 ≤ i4)
            refine zw_3 zr_190_45 rfl ?_
            refine zw_41_4 zr_190_46 ?_ ?_
            · intro h14
              refine zw_push zr_190_53 ?_
              refine zw_16 zr_190_54 (by omega) ?_
              refine zw_9 (L' := [(2, 69), (0, a0), (0, (i3 + 0)), (0, i4)]) zr_190_55 (Nat.le_of_ble_eq_true rfl) rfl ?_
              refine zw_15 (c := 1) (L' := [(2, 69), (0, a0), (0, (i3 + 0)), (0, (i4 + 1))]) zr_190_56 rfl (by decide) (by omega) rfl ?_
              refine zw_42 zr_190_59 ?_
              exact zw_less (L := [(2, 69), (0, a0), (0, (i3 + 0)), (0, (i4 + 1))]) ⟨Or.inr rfl, Or.inr rfl, Or.inr rfl, Or.inr rfl, trivial⟩ (ihlp31_6 ((i3 + 0)) ((i4 + 1)) m11 hIm11 hFm11  km11_70_822 km11_70_823 fm11_70 (by omega) (by omega) (by omega) (by omega) (by omega) (by omega) (by omega))
            · intro h15
              refine zw_push zr_190_49 ?_
              refine zw_42 zr_190_50 ?_
              refine zw_16 zr_190_54 (by omega) ?_
              refine zw_9 (L' := [(2, 69), (0, a0), (0, (i3 + 1)), (0, i4)]) zr_190_55 (Nat.le_of_ble_eq_true rfl) rfl ?_
              refine zw_15 (c := 1) (L' := [(2, 69), (0, a0), (0, (i3 + 1)), (0, (i4 + 1))]) zr_190_56 rfl (by decide) (by omega) rfl ?_
              refine zw_42 zr_190_59 ?_
              exact zw_less (L := [(2, 69), (0, a0), (0, (i3 + 1)), (0, (i4 + 1))]) ⟨Or.inr rfl, Or.inr rfl, Or.inr rfl, Or.inr rfl, trivial⟩ (ihlp31_6 ((i3 + 1)) ((i4 + 1)) m11 hIm11 hFm11  km11_70_822 km11_70_823 fm11_70 (by omega) (by omega) (by omega) (by omega) (by omega) (by omega) (by omega))
      exact lp31_6 _ (0) (0) m0 hI0 hF0  hg0 hg1 hG70 (by omega) (by omega) (by omega) (by omega) (by rfl) (by omega) (Nat.lt_succ_self _)
    · intro h17; omega
  · intro h18
    refine zw_7 zr_190_5 rfl ?_
    refine zw_3 zr_190_6 rfl ?_
    refine zw_C zr_190_7 (Or.inl rfl) zm_143 rfl rfl ⟨Nat.le_of_ble_eq_true rfl, Nat.le_of_ble_eq_true rfl, Nat.le_of_ble_eq_true rfl, rfl, by decide⟩ (by omega) (P := (fun v m' => zW E (d) 190 10 [(2, 69), (0, a0), (9, 0), (9, 0)] (if v.1 = 9 then [] else v :: []) m' Q)) ?_ (fun _ _ h => h)
    generalize hQ1 : (fun v m' => zW E (d) 190 10 [(2, 69), (0, a0), (9, 0), (9, 0)] (if v.1 = 9 then [] else v :: []) m' Q) = Q1
    show zW E (d - 1) 143 0 [(2, 69), (0, a0)] [] m0 Q1
    refine zw_3 zr_143_0 rfl ?_
    refine zw_36 zr_143_1 ?_
    refine zw_push zr_143_2 ?_
    refine zw_7 zr_143_3 rfl ?_
    refine zw_C zr_143_4 (Or.inl rfl) zm_141 rfl rfl ⟨Nat.le_of_ble_eq_true rfl, Nat.le_of_ble_eq_true rfl, Nat.le_of_ble_eq_true rfl, rfl, by decide⟩ (by omega) (P := (fun v m' => zW E (d - 1) 143 7 [(2, 69), (0, a0)] (if v.1 = 9 then [(1, 0), (1, a0)] else v :: [(1, 0), (1, a0)]) m' Q1)) ?_ (fun _ _ h => h)
    generalize hQ2 : (fun v m' => zW E (d - 1) 143 7 [(2, 69), (0, a0)] (if v.1 = 9 then [(1, 0), (1, a0)] else v :: [(1, 0), (1, a0)]) m' Q1) = Q2
    show zW E (d - 1 - 1) 141 0 [(2, 69)] [] m0 Q2
    refine zw_7 zr_141_0 rfl ?_
    refine zw_46r (s := 70) zr_141_1 rfl rfl rfl rfl ?_
    refine zw_push zr_141_4 ?_
    refine zw_48k (c := 70) (len := 826) zr_141_7 rfl rfl (by omega) (by omega) (show (822 : Int).toNat = 822 by omega) hg0 ?_
    refine zw_R zr_141_8 (by decide) zm_141 (v := (0, g0)) rfl ?_
    rw [← hQ2]
    show zW E (d - 1) 143 7 [(2, 69), (0, a0)] [(0, g0), (1, 0), (1, a0)] m0 Q1
    refine zw_push zr_143_7 ?_
    refine zw_17 zr_143_8 (by omega) ?_
    refine zw_36 zr_143_9 ?_
    refine zw_C zr_143_10 (Or.inr rfl) zm_140 rfl rfl ⟨Nat.le_of_ble_eq_true rfl, Nat.le_of_ble_eq_true rfl, Nat.le_of_ble_eq_true rfl, rfl, by decide⟩ (by omega) (P := (fun v m' => zW E (d - 1) 143 13 [(2, 69), (0, a0)] (if v.1 = 9 then [] else v :: []) m' Q1)) ?_ (fun _ _ h => h)
    generalize hQ2 : (fun v m' => zW E (d - 1) 143 13 [(2, 69), (0, a0)] (if v.1 = 9 then [] else v :: []) m' Q1) = Q2
    show zW E (d - 1 - 1) 140 0 [(1, a0), (9, 0), (1, 0), (9, 0), (1, (g0 - 1)), (9, 0)] [] m0 Q2
    refine zw_5 zr_140_0 rfl ?_
    refine zw_5 zr_140_1 rfl ?_
    refine zw_39_0 zr_140_2 zr_140_3 ?_ ?_
    · intro h19
      refine zw_push zr_140_17 ?_
      refine zw_R zr_140_18 (by decide) zm_140 (v := (0, 0)) (zRetB (by omega)) ?_
      rw [← hQ2]
      show zW E (d - 1) 143 13 [(2, 69), (0, a0)] [(0, 0)] m0 Q1
      refine zw_R zr_143_13 (by decide) zm_143 (v := (0, 0)) (zRetB (by omega)) ?_
      rw [← hQ1]
      show zW E (d) 190 10 [(2, 69), (0, a0), (9, 0), (9, 0)] [(0, 0)] m0 Q
      refine zw_40_4 zr_190_10 ?_ ?_
      · intro h20; omega
      · intro h21
        refine zw_push zr_190_13 ?_
        refine zw_R zr_190_15 (by decide) zm_190 (v := (0, (-2))) rfl ?_
        rw [← hQ]; exact ⟨_, rfl, by omega, by omega, hI0, hF0, by first | exact Or.inl ⟨by omega, by have z := zz; rw [show (zz).toNat = g0.toNat by omega] at z; exact z⟩ | exact Or.inr (Or.inl ⟨by omega, by omega, zz⟩) | exact Or.inr (Or.inr ⟨by omega, rfl⟩)⟩
    · intro h23
      refine zw_5 zr_140_6 rfl ?_
      refine zw_6 zr_140_7 rfl ?_
      refine zw_39_2 zr_140_9 zr_140_10 ?_ ?_
      · intro h24
        refine zw_push zr_140_17 ?_
        refine zw_R zr_140_18 (by decide) zm_140 (v := (0, 0)) (zRetB (by omega)) ?_
        rw [← hQ2]
        show zW E (d - 1) 143 13 [(2, 69), (0, a0)] [(0, 0)] m0 Q1
        refine zw_R zr_143_13 (by decide) zm_143 (v := (0, 0)) (zRetB (by omega)) ?_
        rw [← hQ1]
        show zW E (d) 190 10 [(2, 69), (0, a0), (9, 0), (9, 0)] [(0, 0)] m0 Q
        refine zw_40_4 zr_190_10 ?_ ?_
        · intro h25; omega
        · intro h26
          refine zw_push zr_190_13 ?_
          refine zw_R zr_190_15 (by decide) zm_190 (v := (0, (-2))) rfl ?_
          rw [← hQ]; exact ⟨_, rfl, by omega, by omega, hI0, hF0, by first | exact Or.inl ⟨by omega, by have z := zz; rw [show (zz).toNat = g0.toNat by omega] at z; exact z⟩ | exact Or.inr (Or.inl ⟨by omega, by omega, zz⟩) | exact Or.inr (Or.inr ⟨by omega, rfl⟩)⟩
      · intro h28
        refine zw_push zr_140_13 ?_
        refine zw_42 zr_140_14 ?_
        refine zw_R zr_140_18 (by decide) zm_140 (v := (0, 1)) (zRetB (by omega)) ?_
        rw [← hQ2]
        show zW E (d - 1) 143 13 [(2, 69), (0, a0)] [(0, 1)] m0 Q1
        refine zw_R zr_143_13 (by decide) zm_143 (v := (0, 1)) (zRetB (by omega)) ?_
        rw [← hQ1]
        show zW E (d) 190 10 [(2, 69), (0, a0), (9, 0), (9, 0)] [(0, 1)] m0 Q
        refine zw_40_4 zr_190_10 ?_ ?_
        · intro h29
          refine zw_3 zr_190_16 rfl ?_
          refine zw_push zr_190_17 ?_
          refine zw_41_1 zr_190_18 ?_ ?_
          · intro h30; omega
          · intro h31
            refine zw_7 zr_190_21 rfl ?_
            refine zw_3 zr_190_22 rfl ?_
            refine zw_C zr_190_23 (Or.inl rfl) zm_189 rfl rfl ⟨Nat.le_of_ble_eq_true rfl, Nat.le_of_ble_eq_true rfl, Nat.le_of_ble_eq_true rfl, rfl, by decide⟩ (by omega) (th_189 (d := d - 1) (by omega) hI0 (a0 := a0) (g0 := g1)  (F70 := F70) (F81 := m0 81) hg1 hG70 rfl (by omega) ) ?_
            rintro _ m32 ⟨r33, rfl, hr33a, hr33b, hIm32, gm32, po0_r33⟩
            have hFm32 : zFr W_190 m0 m32 := hF0.trans gm32 rfl
            have km32_70_822 : m32 70 822 = g0 := (gm32 70 822 rfl).trans hg0
            have km32_70_823 : m32 70 823 = g1 := (gm32 70 823 rfl).trans hg1
            have fm32_70 : m32 70 = F70 := (funext fun k => gm32 70 k rfl).trans hG70
            show zW E (d) 190 26 [(2, 69), (0, a0), (9, 0), (9, 0)] [(0, r33)] m32 Q
            refine zw_R zr_190_26 (by decide) zm_190 (v := (0, r33)) rfl ?_
            rw [← hQ]; exact ⟨_, rfl, by omega, by omega, hIm32, hFm32, by first | exact Or.inl ⟨by omega, by have z := zz; rw [show (zz).toNat = g0.toNat by omega] at z; exact z⟩ | exact Or.inr (Or.inl ⟨by omega, by omega, po0_r33⟩) | exact Or.inr (Or.inr ⟨by omega, rfl⟩)⟩
        · intro h35; omega

abbrev W_72 : List (Nat × Nat) := [(61, 1000), (62, 1000)]
set_option maxHeartbeats 8000000 in
theorem th_72 {E : zE} {d : Nat} {m0 : zM} {a0 : Int} {a1 : Int} {g0 : Int} {g1 : Int} {g2 : Int} {g3 : Int} {F6 : Nat → Int} {F7 : Nat → Int} {F61 : Nat → Int} {F62 : Nat → Int} (hd : 4 ≤ d) (hI0 : zInv m0) (hg0 : m0 1 0 = g0) (hg1 : m0 1 1 = g1) (hg2 : m0 1 2 = g2) (hg3 : m0 1 3 = g3) (hG6 : m0 6 = F6) (hG7 : m0 7 = F7) (hG61 : m0 61 = F61) (hG62 : m0 62 = F62) (ha0 : 0 ≤ a0 ∧ a0 ≤ 9) (ha1 : 0 ≤ a1 ∧ a1 ≤ 9) : zC E d 72 [(2, 60), (0, a0), (0, a1)] m0 (fun v m' => ∃ r : Int, v = (0, r) ∧ (-5) ≤ r ∧ r ≤ 9 ∧ zInv m' ∧ zFr W_72 m0 m' ∧ (zRd (m' 61) F6 F7 g2 g3 g1 g0 a1 (m' 62)) ∧ (zJl (m' 62) a0 r)) := by
  have hF0 : zFr W_72 m0 m0 := zFr.rfl
  have bg0 := ib_1_0 hI0
  rw [hg0] at bg0
  have bg1 := ib_1_1 hI0
  rw [hg1] at bg1
  have bg2 := ib_1_2 hI0
  rw [hg2] at bg2
  have bg3 := ib_1_3 hI0
  rw [hg3] at bg3
  generalize hQ : (fun (v : zV) (m' : zM) => ∃ r : Int, v = (0, r) ∧ (-5) ≤ r ∧ r ≤ 9 ∧ zInv m' ∧ zFr W_72 m0 m' ∧ (zRd (m' 61) F6 F7 g2 g3 g1 g0 a1 (m' 62)) ∧ (zJl (m' 62) a0 r)) = Q
  show zW E d 72 0 [(2, 60), (0, a0), (0, a1)] [] m0 Q
  refine zw_7 zr_72_0 rfl ?_
  refine zw_3 zr_72_1 rfl ?_
  refine zw_3 zr_72_2 rfl ?_
  refine zw_C zr_72_3 (Or.inl rfl) zm_68 rfl rfl ⟨Nat.le_of_ble_eq_true rfl, Nat.le_of_ble_eq_true rfl, Nat.le_of_ble_eq_true rfl, rfl, by decide⟩ (by omega) (th_68 (d := d - 1) (by omega) hI0 (a0 := a0) (a1 := a1) (g0 := g0) (g1 := g1) (g2 := g2) (g3 := g3)  (F6 := F6) (F7 := F7) (F61 := F61) (F62 := F62) hg0 hg1 hg2 hg3 hG6 hG7 hG61 hG62 (by omega) (by omega) ) ?_
  rintro _ m1 ⟨r2, rfl, hr2a, hr2b, hIm1, gm1, po0_r2, po1_r2⟩
  have hFm1 : zFr W_72 m0 m1 := hF0.trans gm1 rfl
  have km1_1_0 : m1 1 0 = g0 := (gm1 1 0 rfl).trans hg0
  have km1_1_1 : m1 1 1 = g1 := (gm1 1 1 rfl).trans hg1
  have km1_1_2 : m1 1 2 = g2 := (gm1 1 2 rfl).trans hg2
  have km1_1_3 : m1 1 3 = g3 := (gm1 1 3 rfl).trans hg3
  have fm1_6 : m1 6 = F6 := (funext fun k => gm1 6 k rfl).trans hG6
  have fm1_7 : m1 7 = F7 := (funext fun k => gm1 7 k rfl).trans hG7
  obtain ⟨f3, fm1_61⟩ : ∃ f, m1 61 = f := ⟨_, rfl⟩
  try rw [fm1_61] at po0_r2
  obtain ⟨f4, fm1_62⟩ : ∃ f, m1 62 = f := ⟨_, rfl⟩
  try rw [fm1_62] at po0_r2
  try rw [fm1_62] at po1_r2
  show zW E (d) 72 6 [(2, 60), (0, a0), (0, a1)] [(0, r2)] m1 Q
  refine zw_40_1 zr_72_6 ?_ ?_
  · intro h5
    refine zw_push zr_72_18 ?_
    refine zw_R zr_72_20 (by decide) zm_72 (v := (0, (-5))) rfl ?_
    rw [← hQ]; exact ⟨_, rfl, by omega, by omega, hIm1, hFm1, by rw [fm1_61, fm1_62]; exact po0_r2, by rw [fm1_62]; first | exact Or.inl ⟨by omega, rfl⟩ | exact Or.inr ⟨by omega, qzz⟩⟩
  · intro h8
    refine zw_7 zr_72_9 rfl ?_
    refine zw_46r (s := 62) zr_72_10 rfl rfl rfl rfl ?_
    refine zw_3 zr_72_13 rfl ?_
    refine zw_48 (c := 62) (len := 10) zr_72_14 rfl rfl (by omega) (by omega) ?_
    intro x9 ex9
    have bx9 := ib_62 hIm1 (k := (a0).toNat) (by omega)
    rw [← ex9] at bx9
    have qx9 : x9 = f4 (a0).toNat := by rw [← fm1_62]; exact ex9
    clear ex9
    refine zw_42 zr_72_15 ?_
    refine zw_R zr_72_20 (by decide) zm_72 (v := (0, x9)) rfl ?_
    rw [← hQ]; exact ⟨_, rfl, by omega, by omega, hIm1, hFm1, by rw [fm1_61, fm1_62]; exact po0_r2, by rw [fm1_62]; first | exact Or.inl ⟨by omega, rfl⟩ | exact Or.inr ⟨by omega, qx9⟩⟩

set_option maxHeartbeats 8000000 in
theorem th_73 {E : zE} {d : Nat} {m0 : zM} {a0 : Int} {g0 : Int} {F61 : Nat → Int} {F62 : Nat → Int} (hd : 1 ≤ d) (hI0 : zInv m0) (hg0 : m0 1 0 = g0) (hG61 : m0 61 = F61) (hG62 : m0 62 = F62) (ha0 : 0 ≤ a0 ∧ a0 ≤ 9) : zC E d 73 [(2, 60), (0, a0)] m0 (fun v m' => ∃ r : Int, v = (0, r) ∧ 0 ≤ r ∧ r ≤ 9 ∧ m0 = m' ∧ (zNr F61 F62 g0 a0 r)) := by
  have bg0 := ib_1_0 hI0
  rw [hg0] at bg0
  generalize hQ : (fun (v : zV) (m' : zM) => ∃ r : Int, v = (0, r) ∧ 0 ≤ r ∧ r ≤ 9 ∧ m0 = m' ∧ (zNr F61 F62 g0 a0 r)) = Q
  show zW E d 73 0 [(2, 60), (0, a0), (9, 0)] [] m0 Q
  refine zw_push zr_73_0 ?_
  refine zw_9 (L' := [(2, 60), (0, a0), (0, 0)]) zr_73_1 (Nat.le_of_ble_eq_true rfl) rfl ?_
  have lp2_2 : ∀ (nlp2_2 : Nat) (i1 : Int), 0 ≤ i1 → i1 ≤ 10 → (zNq F61 F62 a0 i1) → (i1 ≤ g0) → (10 - i1).toNat < nlp2_2 → zW E (d) 73 2 [(2, 60), (0, a0), (0, i1)] [] m0 Q := by
    intro nlp2_2
    induction nlp2_2 with
    | zero =>
      intros
      exact absurd (by assumption : _ < 0) (Nat.not_lt_zero _)
    | succ nlp2_2 ihlp2_2 =>
      intro i1 li1 ui1 hv0lp2_2 hv1lp2_2 hmlp2_2
      refine zw_3 zr_73_2 rfl ?_
      refine zw_7 zr_73_3 rfl ?_
      refine zw_46r (s := 1) zr_73_4 rfl rfl rfl rfl ?_
      refine zw_46i zr_73_7 hg0 rfl rfl rfl ?_
      refine zw_41_3 zr_73_10 ?_ ?_
      · intro h4
        refine zw_3 zr_73_51 rfl ?_
        refine zw_R zr_73_52 (by decide) zm_73 (v := (0, a0)) rfl ?_
        rw [← hQ]; exact ⟨_, rfl, by omega, by omega, rfl, by first | exact Or.inl ⟨⟨by omega, by rw [← qzz]; omega, by omega⟩, hv0lp2_2⟩ | exact Or.inr ⟨rfl, by have z := hv0lp2_2; rw [show i1 = g0 by omega] at z; exact z⟩⟩
      · intro h6
        refine zw_7 zr_73_13 rfl ?_
        refine zw_46r (s := 61) zr_73_14 rfl rfl rfl rfl ?_
        refine zw_3 zr_73_17 rfl ?_
        refine zw_48 (c := 61) (len := 10) zr_73_18 rfl rfl (by omega) (by omega) ?_
        intro x7 ex7
        have bx7 := ib_61 hI0 (k := (a0).toNat) (by omega)
        rw [← ex7] at bx7
        have qx7 : x7 = F61 (a0).toNat := by rw [← hG61]; exact ex7
        clear ex7
        refine zw_3 zr_73_19 rfl ?_
        refine zw_25p zr_73_20 (by omega) (by omega) ?_
        intro x8 hx8c hx8a hx8b
        refine zw_push zr_73_21 ?_
        refine zw_21o zr_73_22 (by omega) ?_
        refine zw_40_1 zr_73_23 ?_ ?_
        · intro h9
          refine zw_15 (c := 1) (L' := [(2, 60), (0, a0), (0, (i1 + 1))]) zr_73_45 rfl (by decide) (by omega) rfl ?_
          refine zw_42 zr_73_48 ?_
          exact zw_less (L := [(2, 60), (0, a0), (0, (i1 + 1))]) ⟨Or.inr rfl, Or.inr rfl, Or.inr rfl, trivial⟩ (ihlp2_2 ((i1 + 1))  (by omega) (by omega) (zNq_s hv0lp2_2 (by omega) (by rw [← qx7]; omega)) (by omega) (by omega))
        · intro h11
          refine zw_7 zr_73_26 rfl ?_
          refine zw_46r (s := 62) zr_73_27 rfl rfl rfl rfl ?_
          refine zw_3 zr_73_30 rfl ?_
          refine zw_48 (c := 62) (len := 10) zr_73_31 rfl rfl (by omega) (by omega) ?_
          intro x12 ex12
          have bx12 := ib_62 hI0 (k := (i1).toNat) (by omega)
          rw [← ex12] at bx12
          have qx12 : x12 = F62 (i1).toNat := by rw [← hG62]; exact ex12
          clear ex12
          refine zw_7 zr_73_32 rfl ?_
          refine zw_46r (s := 62) zr_73_33 rfl rfl rfl rfl ?_
          refine zw_3 zr_73_36 rfl ?_
          refine zw_48 (c := 62) (len := 10) zr_73_37 rfl rfl (by omega) (by omega) ?_
          intro x13 ex13
          have bx13 := ib_62 hI0 (k := (a0).toNat) (by omega)
          rw [← ex13] at bx13
          have qx13 : x13 = F62 (a0).toNat := by rw [← hG62]; exact ex13
          clear ex13
          refine zw_push zr_73_38 ?_
          refine zw_17 zr_73_39 (by omega) ?_
          refine zw_41_4 zr_73_40 ?_ ?_
          · intro h14
            refine zw_15 (c := 1) (L' := [(2, 60), (0, a0), (0, (i1 + 1))]) zr_73_45 rfl (by decide) (by omega) rfl ?_
            refine zw_42 zr_73_48 ?_
            exact zw_less (L := [(2, 60), (0, a0), (0, (i1 + 1))]) ⟨Or.inr rfl, Or.inr rfl, Or.inr rfl, trivial⟩ (ihlp2_2 ((i1 + 1))  (by omega) (by omega) (zNq_s hv0lp2_2 (by omega) (by rw [← qx7]; omega)) (by omega) (by omega))
          · intro h16
            refine zw_3 zr_73_43 rfl ?_
            refine zw_R zr_73_44 (by decide) zm_73 (v := (0, i1)) rfl ?_
            rw [← hQ]; exact ⟨_, rfl, by omega, by omega, rfl, by first | exact Or.inl ⟨⟨by omega, by rw [← qx7]; omega, by omega⟩, hv0lp2_2⟩ | exact Or.inr ⟨rfl, by have z := hv0lp2_2; rw [show i1 = g0 by omega] at z; exact z⟩⟩
  exact lp2_2 _ (0)  (by omega) (by omega) (zNq_0) (by omega) (Nat.lt_succ_self _)

set_option maxHeartbeats 8000000 in
theorem th_74 {E : zE} {d : Nat} {m0 : zM} {a0 : Int} {a1 : Int} {g0 : Int} {g1 : Int} {g2 : Int} {F6 : Nat → Int} {F7 : Nat → Int} (hd : 2 ≤ d) (hI0 : zInv m0) (hg0 : m0 1 1 = g0) (hg1 : m0 1 2 = g1) (hg2 : m0 1 3 = g2) (hG6 : m0 6 = F6) (hG7 : m0 7 = F7) (ha0 : 0 ≤ a0 ∧ a0 ≤ 9) (ha1 : 0 ≤ a1 ∧ a1 ≤ 9) : zC E d 74 [(2, 60), (0, a0), (0, a1)] m0 (fun v m' => ∃ r : Int, v = (0, r) ∧ (-5) ≤ r ∧ r ≤ 59 ∧ m0 = m' ∧ (zLz F6 F7 g1 g2 g0 a0 a1 r)) := by
  have bg0 := ib_1_1 hI0
  rw [hg0] at bg0
  have bg1 := ib_1_2 hI0
  rw [hg1] at bg1
  have bg2 := ib_1_3 hI0
  rw [hg2] at bg2
  generalize hQ : (fun (v : zV) (m' : zM) => ∃ r : Int, v = (0, r) ∧ (-5) ≤ r ∧ r ≤ 59 ∧ m0 = m' ∧ (zLz F6 F7 g1 g2 g0 a0 a1 r)) = Q
  show zW E d 74 0 [(2, 60), (0, a0), (0, a1), (9, 0), (9, 0), (9, 0)] [] m0 Q
  refine zw_7 zr_74_0 rfl ?_
  refine zw_46r (s := 1) zr_74_1 rfl rfl rfl rfl ?_
  refine zw_C zr_74_4 (Or.inl rfl) zm_53 rfl rfl ⟨Nat.le_of_ble_eq_true rfl, Nat.le_of_ble_eq_true rfl, Nat.le_of_ble_eq_true rfl, rfl, by decide⟩ (by omega) (th_53 (d := d - 1) (by omega) hI0  (g0 := g0) (g1 := g1) (g2 := g2)   hg0 hg1 hg2   ) ?_
  rintro _ _ ⟨r1, rfl, hr1a, hr1b, rfl, po0_r1⟩
  show zW E (d) 74 7 [(2, 60), (0, a0), (0, a1), (9, 0), (9, 0), (9, 0)] [(1, r1)] m0 Q
  refine zw_13 (L' := [(2, 60), (0, a0), (0, a1), (1, r1), (9, 0), (9, 0)]) zr_74_7 (Nat.le_of_ble_eq_true rfl) rfl ?_
  refine zw_push zr_74_8 ?_
  refine zw_10 (L' := [(2, 60), (0, a0), (0, a1), (1, r1), (9, 0), (0, 0)]) zr_74_9 (Nat.le_of_ble_eq_true rfl) rfl ?_
  have lp11_3 : ∀ (nlp11_3 : Nat) (i2 : Int), 0 ≤ i2 → i2 ≤ 60 → (zLl F6 F7 g1 g2 a0 a1 i2) → (i2 ≤ g0) → (60 - i2).toNat < nlp11_3 → zW E (d) 74 11 [(2, 60), (0, a0), (0, a1), (1, r1), (9, 0), (0, i2)] [] m0 Q := by
    intro nlp11_3
    induction nlp11_3 with
    | zero =>
      intros
      exact absurd (by assumption : _ < 0) (Nat.not_lt_zero _)
    | succ nlp11_3 ihlp11_3 =>
      intro i2 li2 ui2 hv0lp11_3 hv1lp11_3 hmlp11_3
      refine zw_4 zr_74_11 rfl ?_
      refine zw_7 zr_74_13 rfl ?_
      refine zw_46r (s := 1) zr_74_14 rfl rfl rfl rfl ?_
      refine zw_46i zr_74_17 hg0 rfl rfl rfl ?_
      refine zw_41_3 zr_74_20 ?_ ?_
      · intro h5
        refine zw_push zr_74_69 ?_
        refine zw_R zr_74_71 (by decide) zm_74 (v := (0, (-5))) rfl ?_
        rw [← hQ]; exact ⟨_, rfl, by omega, by omega, rfl, by first | exact zLz_f hv0lp11_3 (by assumption) (by omega) (by omega) (by omega) (by omega) | exact Or.inr ⟨rfl, by have z := hv0lp11_3; rw [show i2 = g0 by omega] at z; exact z⟩⟩
      · intro h7
        refine zw_5 zr_74_23 rfl ?_
        refine zw_4 zr_74_24 rfl ?_
        refine zw_34p zr_74_26 (by omega) (by omega) ?_
        intro x8 hx8c hx8a hx8b
        refine zw_push zr_74_27 ?_
        refine zw_30o zr_74_28 (by omega) ?_
        refine zw_push zr_74_29 ?_
        refine zw_39_1 zr_74_30 zr_74_31 ?_ ?_
        · intro h9
          refine zw_15 (c := 1) (L' := [(2, 60), (0, a0), (0, a1), (1, r1), (9, 0), (0, (i2 + 1))]) zr_74_63 rfl (by decide) (by omega) rfl ?_
          refine zw_42 zr_74_66 ?_
          exact zw_less (L := [(2, 60), (0, a0), (0, a1), (1, r1), (9, 0), (0, (i2 + 1))]) ⟨Or.inr rfl, Or.inr rfl, Or.inr rfl, Or.inr rfl, Or.inl rfl, Or.inr rfl, trivial⟩ (ihlp11_3 ((i2 + 1))  (by omega) (by omega) (zLl_s hv0lp11_3 (by assumption) (by omega) (by omega)) (by omega) (by omega))
        · intro h11
          refine zw_7 zr_74_34 rfl ?_
          refine zw_46r (s := 1) zr_74_35 rfl rfl rfl rfl ?_
          refine zw_4 zr_74_38 rfl ?_
          refine zw_3 zr_74_40 rfl ?_
          refine zw_C zr_74_41 (Or.inl rfl) zm_44 rfl rfl ⟨Nat.le_of_ble_eq_true rfl, Nat.le_of_ble_eq_true rfl, Nat.le_of_ble_eq_true rfl, rfl, by decide⟩ (by omega) (P := (fun v m' => zW E (d) 74 44 [(2, 60), (0, a0), (0, a1), (1, r1), (9, 0), (0, i2)] (if v.1 = 9 then [] else v :: []) m' Q)) ?_ (fun _ _ h => h)
          generalize hQ1 : (fun v m' => zW E (d) 74 44 [(2, 60), (0, a0), (0, a1), (1, r1), (9, 0), (0, i2)] (if v.1 = 9 then [] else v :: []) m' Q) = Q1
          show zW E (d - 1) 44 0 [(2, 1), (0, i2), (0, a0)] [] m0 Q1
          refine zw_7 zr_44_0 rfl ?_
          refine zw_46r (s := 6) zr_44_1 rfl rfl rfl rfl ?_
          refine zw_3 zr_44_4 rfl ?_
          refine zw_48 (c := 6) (len := 60) zr_44_5 rfl rfl (by omega) (by omega) ?_
          intro x12 ex12
          have bx12 := ib_6 hI0 (k := (i2).toNat) (by omega)
          rw [← ex12] at bx12
          have qx12 : x12 = F6 (i2).toNat := by rw [← hG6]; exact ex12
          refine zw_3 zr_44_6 rfl ?_
          refine zw_41_1 zr_44_7 ?_ ?_
          · intro h13
            refine zw_push zr_44_20 ?_
            refine zw_42 zr_44_21 ?_
            refine zw_R zr_44_25 (by decide) zm_44 (v := (0, 1)) (zRetB (by omega)) ?_
            rw [← hQ1]
            show zW E (d) 74 44 [(2, 60), (0, a0), (0, a1), (1, r1), (9, 0), (0, i2)] [(0, 1)] m0 Q
            refine zw_40_1 zr_74_44 ?_ ?_
            · intro h14; omega
            · intro h15
              refine zw_7 zr_74_47 rfl ?_
              refine zw_46r (s := 1) zr_74_48 rfl rfl rfl rfl ?_
              refine zw_4 zr_74_51 rfl ?_
              refine zw_3 zr_74_53 rfl ?_
              refine zw_C zr_74_54 (Or.inl rfl) zm_44 rfl rfl ⟨Nat.le_of_ble_eq_true rfl, Nat.le_of_ble_eq_true rfl, Nat.le_of_ble_eq_true rfl, rfl, by decide⟩ (by omega) (P := (fun v m' => zW E (d) 74 57 [(2, 60), (0, a0), (0, a1), (1, r1), (9, 0), (0, i2)] (if v.1 = 9 then [] else v :: []) m' Q)) ?_ (fun _ _ h => h)
              generalize hQ1 : (fun v m' => zW E (d) 74 57 [(2, 60), (0, a0), (0, a1), (1, r1), (9, 0), (0, i2)] (if v.1 = 9 then [] else v :: []) m' Q) = Q1
              show zW E (d - 1) 44 0 [(2, 1), (0, i2), (0, a1)] [] m0 Q1
              refine zw_7 zr_44_0 rfl ?_
              refine zw_46r (s := 6) zr_44_1 rfl rfl rfl rfl ?_
              refine zw_3 zr_44_4 rfl ?_
              refine zw_48k (c := 6) (len := 60) zr_44_5 rfl rfl (by omega) (by omega) rfl ex12.symm ?_
              refine zw_3 zr_44_6 rfl ?_
              refine zw_41_1 zr_44_7 ?_ ?_
              · intro h16
                refine zw_push zr_44_20 ?_
                refine zw_42 zr_44_21 ?_
                refine zw_R zr_44_25 (by decide) zm_44 (v := (0, 1)) (zRetB (by omega)) ?_
                rw [← hQ1]
                show zW E (d) 74 57 [(2, 60), (0, a0), (0, a1), (1, r1), (9, 0), (0, i2)] [(0, 1)] m0 Q
                refine zw_40_1 zr_74_57 ?_ ?_
                · intro h17; omega
                · intro h18
                  refine zw_4 zr_74_60 rfl ?_
                  refine zw_R zr_74_62 (by decide) zm_74 (v := (0, i2)) rfl ?_
                  rw [← hQ]; exact ⟨_, rfl, by omega, by omega, rfl, by first | exact zLz_f hv0lp11_3 (by assumption) (by omega) (by omega) (by omega) (by omega) | exact Or.inr ⟨rfl, by have z := hv0lp11_3; rw [show i2 = g0 by omega] at z; exact z⟩⟩
              · intro h20
                refine zw_7 zr_44_10 rfl ?_
                refine zw_46r (s := 7) zr_44_11 rfl rfl rfl rfl ?_
                refine zw_3 zr_44_14 rfl ?_
                refine zw_48 (c := 7) (len := 60) zr_44_15 rfl rfl (by omega) (by omega) ?_
                intro x21 ex21
                have bx21 := ib_7 hI0 (k := (i2).toNat) (by omega)
                rw [← ex21] at bx21
                have qx21 : x21 = F7 (i2).toNat := by rw [← hG7]; exact ex21
                refine zw_3 zr_44_16 rfl ?_
                refine zw_41_4 zr_44_17 ?_ ?_
                · intro h22
                  refine zw_push zr_44_24 ?_
                  refine zw_R zr_44_25 (by decide) zm_44 (v := (0, 0)) (zRetB (by omega)) ?_
                  rw [← hQ1]
                  show zW E (d) 74 57 [(2, 60), (0, a0), (0, a1), (1, r1), (9, 0), (0, i2)] [(0, 0)] m0 Q
                  refine zw_40_1 zr_74_57 ?_ ?_
                  · intro h23
                    refine zw_15 (c := 1) (L' := [(2, 60), (0, a0), (0, a1), (1, r1), (9, 0), (0, (i2 + 1))]) zr_74_63 rfl (by decide) (by omega) rfl ?_
                    refine zw_42 zr_74_66 ?_
                    exact zw_less (L := [(2, 60), (0, a0), (0, a1), (1, r1), (9, 0), (0, (i2 + 1))]) ⟨Or.inr rfl, Or.inr rfl, Or.inr rfl, Or.inr rfl, Or.inl rfl, Or.inr rfl, trivial⟩ (ihlp11_3 ((i2 + 1))  (by omega) (by omega) (zLl_s hv0lp11_3 (by assumption) (by omega) (by omega)) (by omega) (by omega))
                  · intro h25; omega
                · intro h26
                  refine zw_push zr_44_20 ?_
                  refine zw_42 zr_44_21 ?_
                  refine zw_R zr_44_25 (by decide) zm_44 (v := (0, 1)) (zRetB (by omega)) ?_
                  rw [← hQ1]
                  show zW E (d) 74 57 [(2, 60), (0, a0), (0, a1), (1, r1), (9, 0), (0, i2)] [(0, 1)] m0 Q
                  refine zw_40_1 zr_74_57 ?_ ?_
                  · intro h27; omega
                  · intro h28
                    refine zw_4 zr_74_60 rfl ?_
                    refine zw_R zr_74_62 (by decide) zm_74 (v := (0, i2)) rfl ?_
                    rw [← hQ]; exact ⟨_, rfl, by omega, by omega, rfl, by first | exact zLz_f hv0lp11_3 (by assumption) (by omega) (by omega) (by omega) (by omega) | exact Or.inr ⟨rfl, by have z := hv0lp11_3; rw [show i2 = g0 by omega] at z; exact z⟩⟩
          · intro h30
            refine zw_7 zr_44_10 rfl ?_
            refine zw_46r (s := 7) zr_44_11 rfl rfl rfl rfl ?_
            refine zw_3 zr_44_14 rfl ?_
            refine zw_48 (c := 7) (len := 60) zr_44_15 rfl rfl (by omega) (by omega) ?_
            intro x31 ex31
            have bx31 := ib_7 hI0 (k := (i2).toNat) (by omega)
            rw [← ex31] at bx31
            have qx31 : x31 = F7 (i2).toNat := by rw [← hG7]; exact ex31
            refine zw_3 zr_44_16 rfl ?_
            refine zw_41_4 zr_44_17 ?_ ?_
            · intro h32
              refine zw_push zr_44_24 ?_
              refine zw_R zr_44_25 (by decide) zm_44 (v := (0, 0)) (zRetB (by omega)) ?_
              rw [← hQ1]
              show zW E (d) 74 44 [(2, 60), (0, a0), (0, a1), (1, r1), (9, 0), (0, i2)] [(0, 0)] m0 Q
              refine zw_40_1 zr_74_44 ?_ ?_
              · intro h33
                refine zw_15 (c := 1) (L' := [(2, 60), (0, a0), (0, a1), (1, r1), (9, 0), (0, (i2 + 1))]) zr_74_63 rfl (by decide) (by omega) rfl ?_
                refine zw_42 zr_74_66 ?_
                exact zw_less (L := [(2, 60), (0, a0), (0, a1), (1, r1), (9, 0), (0, (i2 + 1))]) ⟨Or.inr rfl, Or.inr rfl, Or.inr rfl, Or.inr rfl, Or.inl rfl, Or.inr rfl, trivial⟩ (ihlp11_3 ((i2 + 1))  (by omega) (by omega) (zLl_s hv0lp11_3 (by assumption) (by omega) (by omega)) (by omega) (by omega))
              · intro h35; omega
            · intro h36
              refine zw_push zr_44_20 ?_
              refine zw_42 zr_44_21 ?_
              refine zw_R zr_44_25 (by decide) zm_44 (v := (0, 1)) (zRetB (by omega)) ?_
              rw [← hQ1]
              show zW E (d) 74 44 [(2, 60), (0, a0), (0, a1), (1, r1), (9, 0), (0, i2)] [(0, 1)] m0 Q
              refine zw_40_1 zr_74_44 ?_ ?_
              · intro h37; omega
              · intro h38
                refine zw_7 zr_74_47 rfl ?_
                refine zw_46r (s := 1) zr_74_48 rfl rfl rfl rfl ?_
                refine zw_4 zr_74_51 rfl ?_
                refine zw_3 zr_74_53 rfl ?_
                refine zw_C zr_74_54 (Or.inl rfl) zm_44 rfl rfl ⟨Nat.le_of_ble_eq_true rfl, Nat.le_of_ble_eq_true rfl, Nat.le_of_ble_eq_true rfl, rfl, by decide⟩ (by omega) (P := (fun v m' => zW E (d) 74 57 [(2, 60), (0, a0), (0, a1), (1, r1), (9, 0), (0, i2)] (if v.1 = 9 then [] else v :: []) m' Q)) ?_ (fun _ _ h => h)
                generalize hQ1 : (fun v m' => zW E (d) 74 57 [(2, 60), (0, a0), (0, a1), (1, r1), (9, 0), (0, i2)] (if v.1 = 9 then [] else v :: []) m' Q) = Q1
                show zW E (d - 1) 44 0 [(2, 1), (0, i2), (0, a1)] [] m0 Q1
                refine zw_7 zr_44_0 rfl ?_
                refine zw_46r (s := 6) zr_44_1 rfl rfl rfl rfl ?_
                refine zw_3 zr_44_4 rfl ?_
                refine zw_48k (c := 6) (len := 60) zr_44_5 rfl rfl (by omega) (by omega) rfl ex12.symm ?_
                refine zw_3 zr_44_6 rfl ?_
                refine zw_41_1 zr_44_7 ?_ ?_
                · intro h39
                  refine zw_push zr_44_20 ?_
                  refine zw_42 zr_44_21 ?_
                  refine zw_R zr_44_25 (by decide) zm_44 (v := (0, 1)) (zRetB (by omega)) ?_
                  rw [← hQ1]
                  show zW E (d) 74 57 [(2, 60), (0, a0), (0, a1), (1, r1), (9, 0), (0, i2)] [(0, 1)] m0 Q
                  refine zw_40_1 zr_74_57 ?_ ?_
                  · intro h40; omega
                  · intro h41
                    refine zw_4 zr_74_60 rfl ?_
                    refine zw_R zr_74_62 (by decide) zm_74 (v := (0, i2)) rfl ?_
                    rw [← hQ]; exact ⟨_, rfl, by omega, by omega, rfl, by first | exact zLz_f hv0lp11_3 (by assumption) (by omega) (by omega) (by omega) (by omega) | exact Or.inr ⟨rfl, by have z := hv0lp11_3; rw [show i2 = g0 by omega] at z; exact z⟩⟩
                · intro h43
                  refine zw_7 zr_44_10 rfl ?_
                  refine zw_46r (s := 7) zr_44_11 rfl rfl rfl rfl ?_
                  refine zw_3 zr_44_14 rfl ?_
                  refine zw_48k (c := 7) (len := 60) zr_44_15 rfl rfl (by omega) (by omega) rfl ex31.symm ?_
                  refine zw_3 zr_44_16 rfl ?_
                  refine zw_41_4 zr_44_17 ?_ ?_
                  · intro h44
                    refine zw_push zr_44_24 ?_
                    refine zw_R zr_44_25 (by decide) zm_44 (v := (0, 0)) (zRetB (by omega)) ?_
                    rw [← hQ1]
                    show zW E (d) 74 57 [(2, 60), (0, a0), (0, a1), (1, r1), (9, 0), (0, i2)] [(0, 0)] m0 Q
                    refine zw_40_1 zr_74_57 ?_ ?_
                    · intro h45
                      refine zw_15 (c := 1) (L' := [(2, 60), (0, a0), (0, a1), (1, r1), (9, 0), (0, (i2 + 1))]) zr_74_63 rfl (by decide) (by omega) rfl ?_
                      refine zw_42 zr_74_66 ?_
                      exact zw_less (L := [(2, 60), (0, a0), (0, a1), (1, r1), (9, 0), (0, (i2 + 1))]) ⟨Or.inr rfl, Or.inr rfl, Or.inr rfl, Or.inr rfl, Or.inl rfl, Or.inr rfl, trivial⟩ (ihlp11_3 ((i2 + 1))  (by omega) (by omega) (zLl_s hv0lp11_3 (by assumption) (by omega) (by omega)) (by omega) (by omega))
                    · intro h47; omega
                  · intro h48
                    refine zw_push zr_44_20 ?_
                    refine zw_42 zr_44_21 ?_
                    refine zw_R zr_44_25 (by decide) zm_44 (v := (0, 1)) (zRetB (by omega)) ?_
                    rw [← hQ1]
                    show zW E (d) 74 57 [(2, 60), (0, a0), (0, a1), (1, r1), (9, 0), (0, i2)] [(0, 1)] m0 Q
                    refine zw_40_1 zr_74_57 ?_ ?_
                    · intro h49; omega
                    · intro h50
                      refine zw_4 zr_74_60 rfl ?_
                      refine zw_R zr_74_62 (by decide) zm_74 (v := (0, i2)) rfl ?_
                      rw [← hQ]; exact ⟨_, rfl, by omega, by omega, rfl, by first | exact zLz_f hv0lp11_3 (by assumption) (by omega) (by omega) (by omega) (by omega) | exact Or.inr ⟨rfl, by have z := hv0lp11_3; rw [show i2 = g0 by omega] at z; exact z⟩⟩
  exact lp11_3 _ (0)  (by omega) (by omega) (zLl_0) (by omega) (Nat.lt_succ_self _)

set_option maxHeartbeats 8000000 in
theorem th_75 {E : zE} {d : Nat} {m0 : zM} {a0 : Int} {a1 : Int} {g0 : Int} {g1 : Int} {g2 : Int} {g3 : Int} {gB : Int} {F6 : Nat → Int} {F7 : Nat → Int} {F61 : Nat → Int} {F62 : Nat → Int} (hd : 3 ≤ d) (hI0 : zInv m0) (hg0 : m0 1 0 = g0) (hg1 : m0 1 1 = g1) (hg2 : m0 1 2 = g2) (hg3 : m0 1 3 = g3) (hG6 : m0 6 = F6) (hG7 : m0 7 = F7) (hG61 : m0 61 = F61) (hG62 : m0 62 = F62) (ha0 : 0 ≤ a0 ∧ a0 ≤ 9) (ha1 : 0 ≤ a1 ∧ a1 ≤ 8) (hp0 : zRd F61 F6 F7 g2 g3 g1 g0 gB F62) (hp1 : zPl F6 F7 g1 g0) (hp2 : 0 ≤ a0 ∧ a0 < g0) (hp3 : (0 ≤ a1 ∧ a1 < F62 a0.toNat ∧ F62 a0.toNat ≤ 9) ∧ lv (zEc F6 F7 g2 g3 g1 g0) gB.toNat (F62 a0.toNat).toNat a0.toNat) : zC E d 75 [(2, 60), (0, a0), (0, a1)] m0 (fun v m' => ∃ r : Int, v = (0, r) ∧ (-5) ≤ r ∧ r ≤ 59 ∧ m0 = m' ∧ (0 ≤ r ∧ rpv (zEc F6 F7 g2 g3 g1 g0) (zMc F6 F7 g2 g3 g1) gB.toNat (F62 a0.toNat).toNat a0.toNat a1.toNat r)) := by
  have bg0 := ib_1_0 hI0
  rw [hg0] at bg0
  have bg1 := ib_1_1 hI0
  rw [hg1] at bg1
  have bg2 := ib_1_2 hI0
  rw [hg2] at bg2
  have bg3 := ib_1_3 hI0
  rw [hg3] at bg3
  generalize hQ : (fun (v : zV) (m' : zM) => ∃ r : Int, v = (0, r) ∧ (-5) ≤ r ∧ r ≤ 59 ∧ m0 = m' ∧ (0 ≤ r ∧ rpv (zEc F6 F7 g2 g3 g1 g0) (zMc F6 F7 g2 g3 g1) gB.toNat (F62 a0.toNat).toNat a0.toNat a1.toNat r)) = Q
  show zW E d 75 0 [(2, 60), (0, a0), (0, a1), (9, 0), (9, 0)] [] m0 Q
  refine zw_3 zr_75_0 rfl ?_
  refine zw_9 (L' := [(2, 60), (0, a0), (0, a1), (0, a0), (9, 0)]) zr_75_1 (Nat.le_of_ble_eq_true rfl) rfl ?_
  refine zw_push zr_75_2 ?_
  refine zw_10 (L' := [(2, 60), (0, a0), (0, a1), (0, a0), (0, 0)]) zr_75_3 (Nat.le_of_ble_eq_true rfl) rfl ?_
  have lp5_3 : ∀ (nlp5_3 : Nat) (i1 i2 : Int), 0 ≤ i1 → i1 ≤ 9 → 0 ≤ i2 → i2 ≤ 8 → ((0 ≤ i1 ∧ i1 < g0) ∧ i2 ≤ a1) → (pth (zEc F6 F7 g2 g3 g1 g0) gB.toNat (F62 a0.toNat).toNat a0.toNat (i2).toNat (i1).toNat) → (8 - i2).toNat < nlp5_3 → zW E (d) 75 5 [(2, 60), (0, a0), (0, a1), (0, i1), (0, i2)] [] m0 Q := by
    intro nlp5_3
    induction nlp5_3 with
    | zero =>
      intros
      exact absurd (by assumption : _ < 0) (Nat.not_lt_zero _)
    | succ nlp5_3 ihlp5_3 =>
      intro i1 i2 li1 ui1 li2 ui2 hv0lp5_3 hv1lp5_3 hmlp5_3
      refine zw_4 zr_75_5 rfl ?_
      refine zw_3 zr_75_7 rfl ?_
      refine zw_41_3 zr_75_8 ?_ ?_
      · intro h5
        refine zw_7 zr_75_30 rfl ?_
        refine zw_3 zr_75_31 rfl ?_
        refine zw_7 zr_75_32 rfl ?_
        refine zw_3 zr_75_33 rfl ?_
        refine zw_C zr_75_34 (Or.inl rfl) zm_73 rfl rfl ⟨Nat.le_of_ble_eq_true rfl, Nat.le_of_ble_eq_true rfl, Nat.le_of_ble_eq_true rfl, rfl, by decide⟩ (by omega) (th_73 (d := d - 1) (by omega) hI0 (a0 := i1) (g0 := g0)  (F61 := F61) (F62 := F62) hg0 hG61 hG62 (by omega) ) ?_
        rintro _ _ ⟨r6, rfl, hr6a, hr6b, rfl, po0_r6⟩
        show zW E (d) 75 37 [(2, 60), (0, a0), (0, a1), (0, i1), (0, i2)] [(0, r6), (0, i1), (2, 60)] m0 Q
        refine zw_C zr_75_37 (Or.inl rfl) zm_74 rfl rfl ⟨Nat.le_of_ble_eq_true rfl, Nat.le_of_ble_eq_true rfl, Nat.le_of_ble_eq_true rfl, rfl, by decide⟩ (by omega) (th_74 (d := d - 1) (by omega) hI0 (a0 := i1) (a1 := r6) (g0 := g1) (g1 := g2) (g2 := g3)  (F6 := F6) (F7 := F7) hg1 hg2 hg3 hG6 hG7 (by omega) (by omega) ) ?_
        rintro _ _ ⟨r7, rfl, hr7a, hr7b, rfl, po0_r7⟩
        show zW E (d) 75 40 [(2, 60), (0, a0), (0, a1), (0, i1), (0, i2)] [(0, r7)] m0 Q
        refine zw_R zr_75_40 (by decide) zm_75 (v := (0, r7)) rfl ?_
        rw [← hQ]; exact ⟨_, rfl, by omega, by omega, rfl, by have z := rp_c hp0 hp1 hp3.2 hv1lp5_3 po0_r6 (by omega) hv0lp5_3.1 po0_r7 (by omega); rw [show (i2).toNat = a1.toNat by omega] at z; exact z⟩
      · intro h9
        refine zw_4 zr_75_11 rfl ?_
        refine zw_push zr_75_13 ?_
        refine zw_41_3 zr_75_15 ?_ ?_
        · intro h10; omega
        · intro h11
          refine zw_7 zr_75_18 rfl ?_
          refine zw_3 zr_75_19 rfl ?_
          refine zw_C zr_75_20 (Or.inl rfl) zm_73 rfl rfl ⟨Nat.le_of_ble_eq_true rfl, Nat.le_of_ble_eq_true rfl, Nat.le_of_ble_eq_true rfl, rfl, by decide⟩ (by omega) (th_73 (d := d - 1) (by omega) hI0 (a0 := i1) (g0 := g0)  (F61 := F61) (F62 := F62) hg0 hG61 hG62 (by omega) ) ?_
          rintro _ _ ⟨r12, rfl, hr12a, hr12b, rfl, po0_r12⟩
          show zW E (d) 75 23 [(2, 60), (0, a0), (0, a1), (0, i1), (0, i2)] [(0, r12)] m0 Q
          refine zw_9 (L' := [(2, 60), (0, a0), (0, a1), (0, r12), (0, i2)]) zr_75_23 (Nat.le_of_ble_eq_true rfl) rfl ?_
          refine zw_15 (c := 1) (L' := [(2, 60), (0, a0), (0, a1), (0, r12), (0, (i2 + 1))]) zr_75_24 rfl (by decide) (by omega) rfl ?_
          refine zw_42 zr_75_27 ?_
          exact zw_less (L := [(2, 60), (0, a0), (0, a1), (0, r12), (0, (i2 + 1))]) ⟨Or.inr rfl, Or.inr rfl, Or.inr rfl, Or.inr rfl, Or.inr rfl, trivial⟩ (ihlp5_3 (r12) ((i2 + 1))  (by omega) (by omega) (by omega) (by omega) (by have z := (nr_s hp0 hp1 hp3 hv1lp5_3 po0_r12 (by omega) hv0lp5_3.1 (by omega)); omega) ((nr_s hp0 hp1 hp3 hv1lp5_3 po0_r12 (by omega) hv0lp5_3.1 (by omega)).2) (by omega))
  exact lp5_3 _ (a0) (0)  (by omega) (by omega) (by omega) (by omega) (by omega) (pth_0) (Nat.lt_succ_self _)

abbrev W_121 : List (Nat × Nat) := [(61, 1000), (62, 1000)]
set_option maxHeartbeats 8000000 in
theorem th_121 {E : zE} {d : Nat} {m0 : zM} {a0 : Int} {a1 : Int} {a2 : Int} {g0 : Int} {g1 : Int} {g2 : Int} {g3 : Int} {F6 : Nat → Int} {F7 : Nat → Int} {F61 : Nat → Int} {F62 : Nat → Int} (hd : 5 ≤ d) (hI0 : zInv m0) (hg0 : m0 1 0 = g0) (hg1 : m0 1 1 = g1) (hg2 : m0 1 2 = g2) (hg3 : m0 1 3 = g3) (hG6 : m0 6 = F6) (hG7 : m0 7 = F7) (hG61 : m0 61 = F61) (hG62 : m0 62 = F62) (ha0 : (-2147483648) ≤ a0 ∧ a0 ≤ 2147483647) (ha1 : (-2147483648) ≤ a1 ∧ a1 ≤ 2147483647) (ha2 : (-2147483648) ≤ a2 ∧ a2 ≤ 2147483647) (hp0 : zPl F6 F7 g1 g0) : zC E d 121 [(2, 0), (0, a0), (0, a1), (0, a2)] m0 (fun v m' => ∃ r : Int, v = (0, r) ∧ (-10) ≤ r ∧ r ≤ 59 ∧ zInv m' ∧ zFr W_121 m0 m' ∧ (rop (zEc F6 F7 g2 g3 g1 g0) (zMc F6 F7 g2 g3 g1) g0 a0 a1 a2 r)) := by
  have hF0 : zFr W_121 m0 m0 := zFr.rfl
  have bg0 := ib_1_0 hI0
  rw [hg0] at bg0
  have bg1 := ib_1_1 hI0
  rw [hg1] at bg1
  have bg2 := ib_1_2 hI0
  rw [hg2] at bg2
  have bg3 := ib_1_3 hI0
  rw [hg3] at bg3
  generalize hQ : (fun (v : zV) (m' : zM) => ∃ r : Int, v = (0, r) ∧ (-10) ≤ r ∧ r ≤ 59 ∧ zInv m' ∧ zFr W_121 m0 m' ∧ (rop (zEc F6 F7 g2 g3 g1 g0) (zMc F6 F7 g2 g3 g1) g0 a0 a1 a2 r)) = Q
  show zW E d 121 0 [(2, 0), (0, a0), (0, a1), (0, a2), (9, 0)] [] m0 Q
  refine zw_7 zr_121_0 rfl ?_
  refine zw_46r (s := 1) zr_121_1 rfl rfl rfl rfl ?_
  refine zw_3 zr_121_4 rfl ?_
  refine zw_C zr_121_5 (Or.inl rfl) zm_49 rfl rfl ⟨Nat.le_of_ble_eq_true rfl, Nat.le_of_ble_eq_true rfl, Nat.le_of_ble_eq_true rfl, rfl, by decide⟩ (by omega) (P := (fun v m' => zW E (d) 121 8 [(2, 0), (0, a0), (0, a1), (0, a2), (9, 0)] (if v.1 = 9 then [] else v :: []) m' Q)) ?_ (fun _ _ h => h)
  generalize hQ1 : (fun v m' => zW E (d) 121 8 [(2, 0), (0, a0), (0, a1), (0, a2), (9, 0)] (if v.1 = 9 then [] else v :: []) m' Q) = Q1
  show zW E (d - 1) 49 0 [(2, 1), (0, a0)] [] m0 Q1
  refine zw_3 zr_49_0 rfl ?_
  refine zw_40_0 zr_49_1 ?_ ?_
  · intro h1
    refine zw_push zr_49_16 ?_
    refine zw_R zr_49_17 (by decide) zm_49 (v := (0, 0)) (zRetB (by omega)) ?_
    rw [← hQ1]
    show zW E (d) 121 8 [(2, 0), (0, a0), (0, a1), (0, a2), (9, 0)] [(0, 0)] m0 Q
    refine zw_40_1 zr_121_8 ?_ ?_
    · intro h2
      refine zw_push zr_121_27 ?_
      refine zw_R zr_121_29 (by decide) zm_121 (v := (0, (-10))) rfl ?_
      rw [← hQ]; exact ⟨_, rfl, by omega, by omega, hI0, hF0, by first | exact rop_b rfl (by omega) | exact rop_n zz zz (by omega) (by omega) | exact rop_o zz zz (by omega) (by omega) (by omega) rfl | exact rop_f (rop_l zz zz (by omega) (by omega)) (by omega) zz⟩
    · intro h4; omega
  · intro h5
    refine zw_3 zr_49_4 rfl ?_
    refine zw_7 zr_49_5 rfl ?_
    refine zw_46i zr_49_6 hg0 rfl rfl rfl ?_
    refine zw_41_3 zr_49_9 ?_ ?_
    · intro h6
      refine zw_push zr_49_16 ?_
      refine zw_R zr_49_17 (by decide) zm_49 (v := (0, 0)) (zRetB (by omega)) ?_
      rw [← hQ1]
      show zW E (d) 121 8 [(2, 0), (0, a0), (0, a1), (0, a2), (9, 0)] [(0, 0)] m0 Q
      refine zw_40_1 zr_121_8 ?_ ?_
      · intro h7
        refine zw_push zr_121_27 ?_
        refine zw_R zr_121_29 (by decide) zm_121 (v := (0, (-10))) rfl ?_
        rw [← hQ]; exact ⟨_, rfl, by omega, by omega, hI0, hF0, by first | exact rop_b rfl (by omega) | exact rop_n zz zz (by omega) (by omega) | exact rop_o zz zz (by omega) (by omega) (by omega) rfl | exact rop_f (rop_l zz zz (by omega) (by omega)) (by omega) zz⟩
      · intro h9; omega
    · intro h10
      refine zw_push zr_49_12 ?_
      refine zw_42 zr_49_13 ?_
      refine zw_R zr_49_17 (by decide) zm_49 (v := (0, 1)) (zRetB (by omega)) ?_
      rw [← hQ1]
      show zW E (d) 121 8 [(2, 0), (0, a0), (0, a1), (0, a2), (9, 0)] [(0, 1)] m0 Q
      refine zw_40_1 zr_121_8 ?_ ?_
      · intro h11; omega
      · intro h12
        refine zw_7 zr_121_11 rfl ?_
        refine zw_46r (s := 1) zr_121_12 rfl rfl rfl rfl ?_
        refine zw_3 zr_121_15 rfl ?_
        refine zw_C zr_121_16 (Or.inl rfl) zm_49 rfl rfl ⟨Nat.le_of_ble_eq_true rfl, Nat.le_of_ble_eq_true rfl, Nat.le_of_ble_eq_true rfl, rfl, by decide⟩ (by omega) (P := (fun v m' => zW E (d) 121 19 [(2, 0), (0, a0), (0, a1), (0, a2), (9, 0)] (if v.1 = 9 then [] else v :: []) m' Q)) ?_ (fun _ _ h => h)
        generalize hQ1 : (fun v m' => zW E (d) 121 19 [(2, 0), (0, a0), (0, a1), (0, a2), (9, 0)] (if v.1 = 9 then [] else v :: []) m' Q) = Q1
        show zW E (d - 1) 49 0 [(2, 1), (0, a1)] [] m0 Q1
        refine zw_3 zr_49_0 rfl ?_
        refine zw_40_0 zr_49_1 ?_ ?_
        · intro h13
          refine zw_push zr_49_16 ?_
          refine zw_R zr_49_17 (by decide) zm_49 (v := (0, 0)) (zRetB (by omega)) ?_
          rw [← hQ1]
          show zW E (d) 121 19 [(2, 0), (0, a0), (0, a1), (0, a2), (9, 0)] [(0, 0)] m0 Q
          refine zw_40_1 zr_121_19 ?_ ?_
          · intro h14
            refine zw_push zr_121_27 ?_
            refine zw_R zr_121_29 (by decide) zm_121 (v := (0, (-10))) rfl ?_
            rw [← hQ]; exact ⟨_, rfl, by omega, by omega, hI0, hF0, by first | exact rop_b rfl (by omega) | exact rop_n zz zz (by omega) (by omega) | exact rop_o zz zz (by omega) (by omega) (by omega) rfl | exact rop_f (rop_l zz zz (by omega) (by omega)) (by omega) zz⟩
          · intro h16; omega
        · intro h17
          refine zw_3 zr_49_4 rfl ?_
          refine zw_7 zr_49_5 rfl ?_
          refine zw_46i zr_49_6 hg0 rfl rfl rfl ?_
          refine zw_41_3 zr_49_9 ?_ ?_
          · intro h18
            refine zw_push zr_49_16 ?_
            refine zw_R zr_49_17 (by decide) zm_49 (v := (0, 0)) (zRetB (by omega)) ?_
            rw [← hQ1]
            show zW E (d) 121 19 [(2, 0), (0, a0), (0, a1), (0, a2), (9, 0)] [(0, 0)] m0 Q
            refine zw_40_1 zr_121_19 ?_ ?_
            · intro h19
              refine zw_push zr_121_27 ?_
              refine zw_R zr_121_29 (by decide) zm_121 (v := (0, (-10))) rfl ?_
              rw [← hQ]; exact ⟨_, rfl, by omega, by omega, hI0, hF0, by first | exact rop_b rfl (by omega) | exact rop_n zz zz (by omega) (by omega) | exact rop_o zz zz (by omega) (by omega) (by omega) rfl | exact rop_f (rop_l zz zz (by omega) (by omega)) (by omega) zz⟩
            · intro h21; omega
          · intro h22
            refine zw_push zr_49_12 ?_
            refine zw_42 zr_49_13 ?_
            refine zw_R zr_49_17 (by decide) zm_49 (v := (0, 1)) (zRetB (by omega)) ?_
            rw [← hQ1]
            show zW E (d) 121 19 [(2, 0), (0, a0), (0, a1), (0, a2), (9, 0)] [(0, 1)] m0 Q
            refine zw_40_1 zr_121_19 ?_ ?_
            · intro h23; omega
            · intro h24
              refine zw_3 zr_121_22 rfl ?_
              refine zw_push zr_121_23 ?_
              refine zw_41_3 zr_121_24 ?_ ?_
              · intro h25
                refine zw_7 zr_121_30 rfl ?_
                refine zw_46r (s := 60) zr_121_31 rfl rfl rfl rfl ?_
                refine zw_3 zr_121_34 rfl ?_
                refine zw_3 zr_121_35 rfl ?_
                refine zw_C zr_121_36 (Or.inl rfl) zm_72 rfl rfl ⟨Nat.le_of_ble_eq_true rfl, Nat.le_of_ble_eq_true rfl, Nat.le_of_ble_eq_true rfl, rfl, by decide⟩ (by omega) (th_72 (d := d - 1) (by omega) hI0 (a0 := a0) (a1 := a1) (g0 := g0) (g1 := g1) (g2 := g2) (g3 := g3)  (F6 := F6) (F7 := F7) (F61 := F61) (F62 := F62) hg0 hg1 hg2 hg3 hG6 hG7 hG61 hG62 (by omega) (by omega) ) ?_
                rintro _ m26 ⟨r27, rfl, hr27a, hr27b, hIm26, gm26, po0_r27, po1_r27⟩
                have hFm26 : zFr W_121 m0 m26 := hF0.trans gm26 rfl
                have km26_1_0 : m26 1 0 = g0 := (gm26 1 0 rfl).trans hg0
                have km26_1_1 : m26 1 1 = g1 := (gm26 1 1 rfl).trans hg1
                have km26_1_2 : m26 1 2 = g2 := (gm26 1 2 rfl).trans hg2
                have km26_1_3 : m26 1 3 = g3 := (gm26 1 3 rfl).trans hg3
                have fm26_6 : m26 6 = F6 := (funext fun k => gm26 6 k rfl).trans hG6
                have fm26_7 : m26 7 = F7 := (funext fun k => gm26 7 k rfl).trans hG7
                obtain ⟨f28, fm26_61⟩ : ∃ f, m26 61 = f := ⟨_, rfl⟩
                try rw [fm26_61] at po0_r27
                obtain ⟨f29, fm26_62⟩ : ∃ f, m26 62 = f := ⟨_, rfl⟩
                try rw [fm26_62] at po0_r27
                try rw [fm26_62] at po1_r27
                show zW E (d) 121 39 [(2, 0), (0, a0), (0, a1), (0, a2), (9, 0)] [(0, r27)] m26 Q
                refine zw_10 (L' := [(2, 0), (0, a0), (0, a1), (0, a2), (0, r27)]) zr_121_39 (Nat.le_of_ble_eq_true rfl) rfl ?_
                refine zw_3 zr_121_41 rfl ?_
                refine zw_push zr_121_42 ?_
                refine zw_41_4 zr_121_43 ?_ ?_
                · intro h30
                  refine zw_3 zr_121_49 rfl ?_
                  refine zw_4 zr_121_50 rfl ?_
                  refine zw_41_3 zr_121_52 ?_ ?_
                  · intro h31
                    refine zw_push zr_121_67 ?_
                    refine zw_R zr_121_69 (by decide) zm_121 (v := (0, (-5))) rfl ?_
                    rw [← hQ]; exact ⟨_, rfl, by omega, by omega, hIm26, hFm26, by first | exact rop_b rfl (by omega) | exact rop_n po0_r27 po1_r27 (by omega) (by omega) | exact rop_o po0_r27 po1_r27 (by omega) (by omega) (by omega) rfl | exact rop_f (rop_l po0_r27 po1_r27 (by omega) (by omega)) (by omega) zz⟩
                  · intro h33
                    refine zw_7 zr_121_55 rfl ?_
                    refine zw_46r (s := 60) zr_121_56 rfl rfl rfl rfl ?_
                    refine zw_3 zr_121_59 rfl ?_
                    refine zw_3 zr_121_60 rfl ?_
                    refine zw_C zr_121_61 (Or.inl rfl) zm_75 rfl rfl ⟨Nat.le_of_ble_eq_true rfl, Nat.le_of_ble_eq_true rfl, Nat.le_of_ble_eq_true rfl, rfl, by decide⟩ (by omega) (th_75 (d := d - 1) (by omega) hIm26 (a0 := a0) (a1 := a2) (g0 := g0) (g1 := g1) (g2 := g2) (g3 := g3) (gB := a1) (F6 := F6) (F7 := F7) (F61 := f28) (F62 := f29) km26_1_0 km26_1_1 km26_1_2 km26_1_3 fm26_6 fm26_7 fm26_61 fm26_62 (by omega) (by omega) (po0_r27) (hp0) (by omega) (rop_l po0_r27 po1_r27 (by omega) (by omega))) ?_
                    rintro _ _ ⟨r39, rfl, hr39a, hr39b, rfl, po0_r39⟩
                    show zW E (d) 121 64 [(2, 0), (0, a0), (0, a1), (0, a2), (0, r27)] [(0, r39)] m26 Q
                    refine zw_42 zr_121_64 ?_
                    refine zw_R zr_121_69 (by decide) zm_121 (v := (0, r39)) rfl ?_
                    rw [← hQ]; exact ⟨_, rfl, by omega, by omega, hIm26, hFm26, by first | exact rop_b rfl (by omega) | exact rop_n po0_r27 po1_r27 (by omega) (by omega) | exact rop_o po0_r27 po1_r27 (by omega) (by omega) (by omega) rfl | exact rop_f (rop_l po0_r27 po1_r27 (by omega) (by omega)) (by omega) po0_r39⟩
                · intro h41
                  refine zw_4 zr_121_46 rfl ?_
                  refine zw_R zr_121_48 (by decide) zm_121 (v := (0, r27)) rfl ?_
                  rw [← hQ]; exact ⟨_, rfl, by omega, by omega, hIm26, hFm26, by first | exact rop_b rfl (by omega) | exact rop_n po0_r27 po1_r27 (by omega) (by omega) | exact rop_o po0_r27 po1_r27 (by omega) (by omega) (by omega) rfl | exact rop_f (rop_l po0_r27 po1_r27 (by omega) (by omega)) (by omega) zz⟩
              · intro h43
                refine zw_push zr_121_27 ?_
                refine zw_R zr_121_29 (by decide) zm_121 (v := (0, (-10))) rfl ?_
                rw [← hQ]; exact ⟨_, rfl, by omega, by omega, hI0, hF0, by first | exact rop_b rfl (by omega) | exact rop_n zz zz (by omega) (by omega) | exact rop_o zz zz (by omega) (by omega) (by omega) rfl | exact rop_f (rop_l zz zz (by omega) (by omega)) (by omega) zz⟩

abbrev W_191 : List (Nat × Nat) := [(81, 1000)]
set_option maxHeartbeats 8000000 in
theorem th_191 {E : zE} {d : Nat} {m0 : zM} {a0 : Int} {a1 : Int} {a2 : Int} {g0 : Int} {g1 : Int} {F70 : Nat → Int} {F81 : Nat → Int} (hd : 4 ≤ d) (hI0 : zInv m0) (hg0 : m0 70 822 = g0) (hg1 : m0 70 823 = g1) (hG70 : m0 70 = F70) (hG81 : m0 81 = F81) (ha0 : (-2147483648) ≤ a0 ∧ a0 ≤ 2147483647) (ha1 : (-2147483648) ≤ a1 ∧ a1 ≤ 2147483647) (ha2 : (-2147483648) ≤ a2 ∧ a2 ≤ 2147483647) : zC E d 191 [(2, 69), (0, a0), (0, a1), (0, a2)] m0 (fun v m' => ∃ r : Int, v = (0, r) ∧ (-10) ≤ r ∧ r ≤ 99999999 ∧ zInv m' ∧ zFr W_191 m0 m' ∧ (rop (edr F70 g1 (-1)) (zMr F70 g1) g0 a0 a1 a2 r)) := by
  have hF0 : zFr W_191 m0 m0 := zFr.rfl
  have bg0 : 0 ≤ m0 70 822 ∧ m0 70 822 ≤ 10 := ib_70_players hI0 (by omega)
  rw [hg0] at bg0
  have bg1 : 0 ≤ m0 70 823 ∧ m0 70 823 ≤ 60 := ib_70_meetings hI0 (by omega)
  rw [hg1] at bg1
  generalize hQ : (fun (v : zV) (m' : zM) => ∃ r : Int, v = (0, r) ∧ (-10) ≤ r ∧ r ≤ 99999999 ∧ zInv m' ∧ zFr W_191 m0 m' ∧ (rop (edr F70 g1 (-1)) (zMr F70 g1) g0 a0 a1 a2 r)) = Q
  show zW E d 191 0 [(2, 69), (0, a0), (0, a1), (0, a2), (9, 0), (9, 0), (9, 0), (9, 0), (9, 0), (9, 0)] [] m0 Q
  refine zw_7 zr_191_0 rfl ?_
  refine zw_3 zr_191_1 rfl ?_
  refine zw_C zr_191_2 (Or.inl rfl) zm_143 rfl rfl ⟨Nat.le_of_ble_eq_true rfl, Nat.le_of_ble_eq_true rfl, Nat.le_of_ble_eq_true rfl, rfl, by decide⟩ (by omega) (P := (fun v m' => zW E (d) 191 5 [(2, 69), (0, a0), (0, a1), (0, a2), (9, 0), (9, 0), (9, 0), (9, 0), (9, 0), (9, 0)] (if v.1 = 9 then [] else v :: []) m' Q)) ?_ (fun _ _ h => h)
  generalize hQ1 : (fun v m' => zW E (d) 191 5 [(2, 69), (0, a0), (0, a1), (0, a2), (9, 0), (9, 0), (9, 0), (9, 0), (9, 0), (9, 0)] (if v.1 = 9 then [] else v :: []) m' Q) = Q1
  show zW E (d - 1) 143 0 [(2, 69), (0, a0)] [] m0 Q1
  refine zw_3 zr_143_0 rfl ?_
  refine zw_36 zr_143_1 ?_
  refine zw_push zr_143_2 ?_
  refine zw_7 zr_143_3 rfl ?_
  refine zw_C zr_143_4 (Or.inl rfl) zm_141 rfl rfl ⟨Nat.le_of_ble_eq_true rfl, Nat.le_of_ble_eq_true rfl, Nat.le_of_ble_eq_true rfl, rfl, by decide⟩ (by omega) (P := (fun v m' => zW E (d - 1) 143 7 [(2, 69), (0, a0)] (if v.1 = 9 then [(1, 0), (1, a0)] else v :: [(1, 0), (1, a0)]) m' Q1)) ?_ (fun _ _ h => h)
  generalize hQ2 : (fun v m' => zW E (d - 1) 143 7 [(2, 69), (0, a0)] (if v.1 = 9 then [(1, 0), (1, a0)] else v :: [(1, 0), (1, a0)]) m' Q1) = Q2
  show zW E (d - 1 - 1) 141 0 [(2, 69)] [] m0 Q2
  refine zw_7 zr_141_0 rfl ?_
  refine zw_46r (s := 70) zr_141_1 rfl rfl rfl rfl ?_
  refine zw_push zr_141_4 ?_
  refine zw_48k (c := 70) (len := 826) zr_141_7 rfl rfl (by omega) (by omega) (show (822 : Int).toNat = 822 by omega) hg0 ?_
  refine zw_R zr_141_8 (by decide) zm_141 (v := (0, g0)) rfl ?_
  rw [← hQ2]
  show zW E (d - 1) 143 7 [(2, 69), (0, a0)] [(0, g0), (1, 0), (1, a0)] m0 Q1
  refine zw_push zr_143_7 ?_
  refine zw_17 zr_143_8 (by omega) ?_
  refine zw_36 zr_143_9 ?_
  refine zw_C zr_143_10 (Or.inr rfl) zm_140 rfl rfl ⟨Nat.le_of_ble_eq_true rfl, Nat.le_of_ble_eq_true rfl, Nat.le_of_ble_eq_true rfl, rfl, by decide⟩ (by omega) (P := (fun v m' => zW E (d - 1) 143 13 [(2, 69), (0, a0)] (if v.1 = 9 then [] else v :: []) m' Q1)) ?_ (fun _ _ h => h)
  generalize hQ2 : (fun v m' => zW E (d - 1) 143 13 [(2, 69), (0, a0)] (if v.1 = 9 then [] else v :: []) m' Q1) = Q2
  show zW E (d - 1 - 1) 140 0 [(1, a0), (9, 0), (1, 0), (9, 0), (1, (g0 - 1)), (9, 0)] [] m0 Q2
  refine zw_5 zr_140_0 rfl ?_
  refine zw_5 zr_140_1 rfl ?_
  refine zw_39_0 zr_140_2 zr_140_3 ?_ ?_
  · intro h1
    refine zw_push zr_140_17 ?_
    refine zw_R zr_140_18 (by decide) zm_140 (v := (0, 0)) (zRetB (by omega)) ?_
    rw [← hQ2]
    show zW E (d - 1) 143 13 [(2, 69), (0, a0)] [(0, 0)] m0 Q1
    refine zw_R zr_143_13 (by decide) zm_143 (v := (0, 0)) (zRetB (by omega)) ?_
    rw [← hQ1]
    show zW E (d) 191 5 [(2, 69), (0, a0), (0, a1), (0, a2), (9, 0), (9, 0), (9, 0), (9, 0), (9, 0), (9, 0)] [(0, 0)] m0 Q
    refine zw_40_1 zr_191_5 ?_ ?_
    · intro h2
      refine zw_push zr_191_21 ?_
      refine zw_R zr_191_23 (by decide) zm_191 (v := (0, (-10))) rfl ?_
      rw [← hQ]; exact ⟨_, rfl, by omega, by omega, hI0, hF0, by first | exact rop_b rfl (by omega) | exact rop_r5 zz qzz (by omega) (by omega) rfl | exact rop_rn zz qzz (by omega) (by omega) (by omega) | exact rop_ro zz qzz (by omega) (by omega) (by omega) rfl | exact rop_rf (by assumption) qzz (by omega) (by omega) (by omega) zz (by omega)⟩
    · intro h4; omega
  · intro h5
    refine zw_5 zr_140_6 rfl ?_
    refine zw_6 zr_140_7 rfl ?_
    refine zw_39_2 zr_140_9 zr_140_10 ?_ ?_
    · intro h6
      refine zw_push zr_140_17 ?_
      refine zw_R zr_140_18 (by decide) zm_140 (v := (0, 0)) (zRetB (by omega)) ?_
      rw [← hQ2]
      show zW E (d - 1) 143 13 [(2, 69), (0, a0)] [(0, 0)] m0 Q1
      refine zw_R zr_143_13 (by decide) zm_143 (v := (0, 0)) (zRetB (by omega)) ?_
      rw [← hQ1]
      show zW E (d) 191 5 [(2, 69), (0, a0), (0, a1), (0, a2), (9, 0), (9, 0), (9, 0), (9, 0), (9, 0), (9, 0)] [(0, 0)] m0 Q
      refine zw_40_1 zr_191_5 ?_ ?_
      · intro h7
        refine zw_push zr_191_21 ?_
        refine zw_R zr_191_23 (by decide) zm_191 (v := (0, (-10))) rfl ?_
        rw [← hQ]; exact ⟨_, rfl, by omega, by omega, hI0, hF0, by first | exact rop_b rfl (by omega) | exact rop_r5 zz qzz (by omega) (by omega) rfl | exact rop_rn zz qzz (by omega) (by omega) (by omega) | exact rop_ro zz qzz (by omega) (by omega) (by omega) rfl | exact rop_rf (by assumption) qzz (by omega) (by omega) (by omega) zz (by omega)⟩
      · intro h9; omega
    · intro h10
      refine zw_push zr_140_13 ?_
      refine zw_42 zr_140_14 ?_
      refine zw_R zr_140_18 (by decide) zm_140 (v := (0, 1)) (zRetB (by omega)) ?_
      rw [← hQ2]
      show zW E (d - 1) 143 13 [(2, 69), (0, a0)] [(0, 1)] m0 Q1
      refine zw_R zr_143_13 (by decide) zm_143 (v := (0, 1)) (zRetB (by omega)) ?_
      rw [← hQ1]
      show zW E (d) 191 5 [(2, 69), (0, a0), (0, a1), (0, a2), (9, 0), (9, 0), (9, 0), (9, 0), (9, 0), (9, 0)] [(0, 1)] m0 Q
      refine zw_40_1 zr_191_5 ?_ ?_
      · intro h11; omega
      · intro h12
        refine zw_7 zr_191_8 rfl ?_
        refine zw_3 zr_191_9 rfl ?_
        refine zw_C zr_191_10 (Or.inl rfl) zm_143 rfl rfl ⟨Nat.le_of_ble_eq_true rfl, Nat.le_of_ble_eq_true rfl, Nat.le_of_ble_eq_true rfl, rfl, by decide⟩ (by omega) (P := (fun v m' => zW E (d) 191 13 [(2, 69), (0, a0), (0, a1), (0, a2), (9, 0), (9, 0), (9, 0), (9, 0), (9, 0), (9, 0)] (if v.1 = 9 then [] else v :: []) m' Q)) ?_ (fun _ _ h => h)
        generalize hQ1 : (fun v m' => zW E (d) 191 13 [(2, 69), (0, a0), (0, a1), (0, a2), (9, 0), (9, 0), (9, 0), (9, 0), (9, 0), (9, 0)] (if v.1 = 9 then [] else v :: []) m' Q) = Q1
        show zW E (d - 1) 143 0 [(2, 69), (0, a1)] [] m0 Q1
        refine zw_3 zr_143_0 rfl ?_
        refine zw_36 zr_143_1 ?_
        refine zw_push zr_143_2 ?_
        refine zw_7 zr_143_3 rfl ?_
        refine zw_C zr_143_4 (Or.inl rfl) zm_141 rfl rfl ⟨Nat.le_of_ble_eq_true rfl, Nat.le_of_ble_eq_true rfl, Nat.le_of_ble_eq_true rfl, rfl, by decide⟩ (by omega) (P := (fun v m' => zW E (d - 1) 143 7 [(2, 69), (0, a1)] (if v.1 = 9 then [(1, 0), (1, a1)] else v :: [(1, 0), (1, a1)]) m' Q1)) ?_ (fun _ _ h => h)
        generalize hQ2 : (fun v m' => zW E (d - 1) 143 7 [(2, 69), (0, a1)] (if v.1 = 9 then [(1, 0), (1, a1)] else v :: [(1, 0), (1, a1)]) m' Q1) = Q2
        show zW E (d - 1 - 1) 141 0 [(2, 69)] [] m0 Q2
        refine zw_7 zr_141_0 rfl ?_
        refine zw_46r (s := 70) zr_141_1 rfl rfl rfl rfl ?_
        refine zw_push zr_141_4 ?_
        refine zw_48k (c := 70) (len := 826) zr_141_7 rfl rfl (by omega) (by omega) (show (822 : Int).toNat = 822 by omega) hg0 ?_
        refine zw_R zr_141_8 (by decide) zm_141 (v := (0, g0)) rfl ?_
        rw [← hQ2]
        show zW E (d - 1) 143 7 [(2, 69), (0, a1)] [(0, g0), (1, 0), (1, a1)] m0 Q1
        refine zw_push zr_143_7 ?_
        refine zw_17 zr_143_8 (by omega) ?_
        refine zw_36 zr_143_9 ?_
        refine zw_C zr_143_10 (Or.inr rfl) zm_140 rfl rfl ⟨Nat.le_of_ble_eq_true rfl, Nat.le_of_ble_eq_true rfl, Nat.le_of_ble_eq_true rfl, rfl, by decide⟩ (by omega) (P := (fun v m' => zW E (d - 1) 143 13 [(2, 69), (0, a1)] (if v.1 = 9 then [] else v :: []) m' Q1)) ?_ (fun _ _ h => h)
        generalize hQ2 : (fun v m' => zW E (d - 1) 143 13 [(2, 69), (0, a1)] (if v.1 = 9 then [] else v :: []) m' Q1) = Q2
        show zW E (d - 1 - 1) 140 0 [(1, a1), (9, 0), (1, 0), (9, 0), (1, (g0 - 1)), (9, 0)] [] m0 Q2
        refine zw_5 zr_140_0 rfl ?_
        refine zw_5 zr_140_1 rfl ?_
        refine zw_39_0 zr_140_2 zr_140_3 ?_ ?_
        · intro h13
          refine zw_push zr_140_17 ?_
          refine zw_R zr_140_18 (by decide) zm_140 (v := (0, 0)) (zRetB (by omega)) ?_
          rw [← hQ2]
          show zW E (d - 1) 143 13 [(2, 69), (0, a1)] [(0, 0)] m0 Q1
          refine zw_R zr_143_13 (by decide) zm_143 (v := (0, 0)) (zRetB (by omega)) ?_
          rw [← hQ1]
          show zW E (d) 191 13 [(2, 69), (0, a0), (0, a1), (0, a2), (9, 0), (9, 0), (9, 0), (9, 0), (9, 0), (9, 0)] [(0, 0)] m0 Q
          refine zw_40_1 zr_191_13 ?_ ?_
          · intro h14
            refine zw_push zr_191_21 ?_
            refine zw_R zr_191_23 (by decide) zm_191 (v := (0, (-10))) rfl ?_
            rw [← hQ]; exact ⟨_, rfl, by omega, by omega, hI0, hF0, by first | exact rop_b rfl (by omega) | exact rop_r5 zz qzz (by omega) (by omega) rfl | exact rop_rn zz qzz (by omega) (by omega) (by omega) | exact rop_ro zz qzz (by omega) (by omega) (by omega) rfl | exact rop_rf (by assumption) qzz (by omega) (by omega) (by omega) zz (by omega)⟩
          · intro h16; omega
        · intro h17
          refine zw_5 zr_140_6 rfl ?_
          refine zw_6 zr_140_7 rfl ?_
          refine zw_39_2 zr_140_9 zr_140_10 ?_ ?_
          · intro h18
            refine zw_push zr_140_17 ?_
            refine zw_R zr_140_18 (by decide) zm_140 (v := (0, 0)) (zRetB (by omega)) ?_
            rw [← hQ2]
            show zW E (d - 1) 143 13 [(2, 69), (0, a1)] [(0, 0)] m0 Q1
            refine zw_R zr_143_13 (by decide) zm_143 (v := (0, 0)) (zRetB (by omega)) ?_
            rw [← hQ1]
            show zW E (d) 191 13 [(2, 69), (0, a0), (0, a1), (0, a2), (9, 0), (9, 0), (9, 0), (9, 0), (9, 0), (9, 0)] [(0, 0)] m0 Q
            refine zw_40_1 zr_191_13 ?_ ?_
            · intro h19
              refine zw_push zr_191_21 ?_
              refine zw_R zr_191_23 (by decide) zm_191 (v := (0, (-10))) rfl ?_
              rw [← hQ]; exact ⟨_, rfl, by omega, by omega, hI0, hF0, by first | exact rop_b rfl (by omega) | exact rop_r5 zz qzz (by omega) (by omega) rfl | exact rop_rn zz qzz (by omega) (by omega) (by omega) | exact rop_ro zz qzz (by omega) (by omega) (by omega) rfl | exact rop_rf (by assumption) qzz (by omega) (by omega) (by omega) zz (by omega)⟩
            · intro h21; omega
          · intro h22
            refine zw_push zr_140_13 ?_
            refine zw_42 zr_140_14 ?_
            refine zw_R zr_140_18 (by decide) zm_140 (v := (0, 1)) (zRetB (by omega)) ?_
            rw [← hQ2]
            show zW E (d - 1) 143 13 [(2, 69), (0, a1)] [(0, 1)] m0 Q1
            refine zw_R zr_143_13 (by decide) zm_143 (v := (0, 1)) (zRetB (by omega)) ?_
            rw [← hQ1]
            show zW E (d) 191 13 [(2, 69), (0, a0), (0, a1), (0, a2), (9, 0), (9, 0), (9, 0), (9, 0), (9, 0), (9, 0)] [(0, 1)] m0 Q
            refine zw_40_1 zr_191_13 ?_ ?_
            · intro h23; omega
            · intro h24
              refine zw_3 zr_191_16 rfl ?_
              refine zw_push zr_191_17 ?_
              refine zw_41_3 zr_191_18 ?_ ?_
              · intro h25
                refine zw_7 zr_191_24 rfl ?_
                refine zw_3 zr_191_25 rfl ?_
                refine zw_push zr_191_26 ?_
                refine zw_C zr_191_27 (Or.inl rfl) zm_188 rfl rfl ⟨Nat.le_of_ble_eq_true rfl, Nat.le_of_ble_eq_true rfl, Nat.le_of_ble_eq_true rfl, rfl, by decide⟩ (by omega) (th_188 (d := d - 1) (by omega) hI0 (a0 := a1) (a1 := (-1)) (g0 := g1)  (F70 := F70) (F81 := F81) hg1 hG70 hG81 (by omega) (by omega) ) ?_
                rintro _ m26 ⟨rfl, hIm26, gm26, po0_m26, po1_m26⟩
                have hFm26 : zFr W_191 m0 m26 := hF0.trans gm26 rfl
                have km26_70_822 : m26 70 822 = g0 := (gm26 70 822 rfl).trans hg0
                have km26_70_823 : m26 70 823 = g1 := (gm26 70 823 rfl).trans hg1
                have fm26_70 : m26 70 = F70 := (funext fun k => gm26 70 k rfl).trans hG70
                obtain ⟨f27, fm26_81⟩ : ∃ f, m26 81 = f := ⟨_, rfl⟩
                try rw [fm26_81] at po0_m26
                try rw [fm26_81] at po1_m26
                show zW E (d) 191 30 [(2, 69), (0, a0), (0, a1), (0, a2), (9, 0), (9, 0), (9, 0), (9, 0), (9, 0), (9, 0)] [] m26 Q
                refine zw_7 zr_191_30 rfl ?_
                refine zw_46r (s := 81) zr_191_31 rfl rfl rfl rfl ?_
                refine zw_3 zr_191_34 rfl ?_
                refine zw_48 (c := 81) (len := 10) zr_191_35 rfl rfl (by omega) (by omega) ?_
                intro x28 ex28
                have bx28 := ib_81 hIm26 (k := (a0).toNat) (by omega)
                rw [← ex28] at bx28
                have qx28 : x28 = f27 (a0).toNat := by rw [← fm26_81]; exact ex28
                refine zw_push zr_191_36 ?_
                refine zw_41_0 zr_191_38 ?_ ?_
                · intro h29
                  refine zw_3 zr_191_44 rfl ?_
                  refine zw_push zr_191_45 ?_
                  refine zw_41_4 zr_191_46 ?_ ?_
                  · intro h30
                    refine zw_3 zr_191_56 rfl ?_
                    refine zw_7 zr_191_57 rfl ?_
                    refine zw_46r (s := 81) zr_191_58 rfl rfl rfl rfl ?_
                    refine zw_3 zr_191_61 rfl ?_
                    refine zw_48k (c := 81) (len := 10) zr_191_62 rfl rfl (by omega) (by omega) rfl ex28.symm ?_
                    refine zw_41_0 zr_191_63 ?_ ?_
                    · intro h31
                      refine zw_3 zr_191_69 rfl ?_
                      refine zw_10 (L' := [(2, 69), (0, a0), (0, a1), (0, a2), (0, a0), (9, 0), (9, 0), (9, 0), (9, 0), (9, 0)]) zr_191_70 (Nat.le_of_ble_eq_true rfl) rfl ?_
                      refine zw_push zr_191_72 ?_
                      refine zw_10 (L' := [(2, 69), (0, a0), (0, a1), (0, a2), (0, a0), (0, (-1)), (9, 0), (9, 0), (9, 0), (9, 0)]) zr_191_73 (Nat.le_of_ble_eq_true rfl) rfl ?_
                      refine zw_push zr_191_75 ?_
                      refine zw_10 (L' := [(2, 69), (0, a0), (0, a1), (0, a2), (0, a0), (0, (-1)), (0, 0), (9, 0), (9, 0), (9, 0)]) zr_191_76 (Nat.le_of_ble_eq_true rfl) rfl ?_
                      have lp78_35 : ∀ (nlp78_35 : Nat) (i32 i33 i34 : Int), (-1) ≤ i32 → i32 ≤ 9 → (-1) ≤ i33 → i33 ≤ 59 → 0 ≤ i34 → i34 ≤ 2147483647 → (zRo F70 f27 g1 a1 a0 i34 i32 i33) → (i34 ≤ a2 + 1) → (2147483647 - i34).toNat < nlp78_35 → zW E (d) 191 78 [(2, 69), (0, a0), (0, a1), (0, a2), (0, i32), (0, i33), (0, i34), (9, 0), (9, 0), (9, 0)] [] m26 Q := by
                        intro nlp78_35
                        induction nlp78_35 with
                        | zero =>
                          intros
                          exact absurd (by assumption : _ < 0) (Nat.not_lt_zero _)
                        | succ nlp78_35 ihlp78_35 =>
                          intro i32 i33 i34 li32 ui32 li33 ui33 li34 ui34 hv0lp78_35 hv1lp78_35 hmlp78_35
                          have z37 := zRo_b hv0lp78_35
                          refine zw_4 zr_191_78 rfl ?_
                          refine zw_3 zr_191_80 rfl ?_
                          refine zw_41_2 zr_191_81 ?_ ?_
                          · intro h38
                            refine zw_4 zr_191_195 rfl ?_
                            refine zw_R zr_191_197 (by decide) zm_191 (v := (0, i33)) rfl ?_
                            rw [← hQ]; exact ⟨_, rfl, by omega, by omega, hIm26, hFm26, by first | exact rop_b rfl (by omega) | exact rop_r5 zz qx28 (by omega) (by omega) rfl | exact rop_rn zz qx28 (by omega) (by omega) (by omega) | exact rop_ro zz qx28 (by omega) (by omega) (by omega) rfl | exact rop_rf (by assumption) qx28 (by omega) (by omega) (by omega) hv0lp78_35 (by omega)⟩
                          · intro h40
                            refine zw_push zr_191_84 ?_
                            refine zw_10 (L' := [(2, 69), (0, a0), (0, a1), (0, a2), (0, i32), (0, i33), (0, i34), (0, (-1)), (9, 0), (9, 0)]) zr_191_85 (Nat.le_of_ble_eq_true rfl) rfl ?_
                            refine zw_push zr_191_87 ?_
                            refine zw_10 (L' := [(2, 69), (0, a0), (0, a1), (0, a2), (0, i32), (0, i33), (0, i34), (0, (-1)), (0, 0), (9, 0)]) zr_191_88 (Nat.le_of_ble_eq_true rfl) rfl ?_
                            have lp90_44 : ∀ (nlp90_44 : Nat) (i41 i42 i43 : Int), (-1) ≤ i41 → i41 ≤ 59 → (-1) ≤ i42 → i42 ≤ 9 → 0 ≤ i43 → i43 ≤ 60 → (zRn F70 f27 g1 i32 i43 i42 i41) → (i43 ≤ g1) → (60 - i43).toNat < nlp90_44 → zW E (d) 191 90 [(2, 69), (0, a0), (0, a1), (0, a2), (0, i32), (0, i41), (0, i34), (0, i42), (0, i43), (9, 0)] [] m26 Q := by
                              intro nlp90_44
                              induction nlp90_44 with
                              | zero =>
                                intros
                                exact absurd (by assumption : _ < 0) (Nat.not_lt_zero _)
                              | succ nlp90_44 ihlp90_44 =>
                                intro i41 i42 i43 li41 ui41 li42 ui42 li43 ui43 hv0lp90_44 hv1lp90_44 hmlp90_44
                                have z46 : F70 ((90 + (6 * i43)) + 1).toNat = F70 (91 + 6 * (i43).toNat) := congrArg F70 (by omega)
                                have z47 : F70 ((90 + (6 * i43)) + 2).toNat = F70 (92 + 6 * (i43).toNat) := congrArg F70 (by omega)
                                have z48 : F70 ((90 + (6 * i43)) + 4).toNat = F70 (94 + 6 * (i43).toNat) := congrArg F70 (by omega)
                                have z49 : F70 ((90 + (6 * i43)) + 5).toNat = F70 (95 + 6 * (i43).toNat) := congrArg F70 (by omega)
                                refine zw_4 zr_191_90 rfl ?_
                                refine zw_7 zr_191_92 rfl ?_
                                refine zw_C zr_191_93 (Or.inl rfl) zm_142 rfl rfl ⟨Nat.le_of_ble_eq_true rfl, Nat.le_of_ble_eq_true rfl, Nat.le_of_ble_eq_true rfl, rfl, by decide⟩ (by omega) (P := (fun v m' => zW E (d) 191 96 [(2, 69), (0, a0), (0, a1), (0, a2), (0, i32), (0, i41), (0, i34), (0, i42), (0, i43), (9, 0)] (if v.1 = 9 then [(0, i43)] else v :: [(0, i43)]) m' Q)) ?_ (fun _ _ h => h)
                                generalize hQ1 : (fun v m' => zW E (d) 191 96 [(2, 69), (0, a0), (0, a1), (0, a2), (0, i32), (0, i41), (0, i34), (0, i42), (0, i43), (9, 0)] (if v.1 = 9 then [(0, i43)] else v :: [(0, i43)]) m' Q) = Q1
                                show zW E (d - 1) 142 0 [(2, 69)] [] m26 Q1
                                refine zw_7 zr_142_0 rfl ?_
                                refine zw_46r (s := 70) zr_142_1 rfl rfl rfl rfl ?_
                                refine zw_push zr_142_4 ?_
                                refine zw_48k (c := 70) (len := 826) zr_142_7 rfl rfl (by omega) (by omega) (show (823 : Int).toNat = 823 by omega) km26_70_823 ?_
                                refine zw_R zr_142_8 (by decide) zm_142 (v := (0, g1)) rfl ?_
                                rw [← hQ1]
                                show zW E (d) 191 96 [(2, 69), (0, a0), (0, a1), (0, a2), (0, i32), (0, i41), (0, i34), (0, i42), (0, i43), (9, 0)] [(0, g1), (0, i43)] m26 Q
                                refine zw_41_3 zr_191_96 ?_ ?_
                                · intro h50
                                  refine zw_4 zr_191_185 rfl ?_
                                  refine zw_10 (L' := [(2, 69), (0, a0), (0, a1), (0, a2), (0, i42), (0, i41), (0, i34), (0, i42), (0, i43), (9, 0)]) zr_191_187 (Nat.le_of_ble_eq_true rfl) rfl ?_
                                  refine zw_15 (c := 1) (L' := [(2, 69), (0, a0), (0, a1), (0, a2), (0, i42), (0, i41), (0, (i34 + 1)), (0, i42), (0, i43), (9, 0)]) zr_191_189 rfl (by decide) (by omega) rfl ?_
                                  refine zw_42 zr_191_192 ?_
                                  exact zw_less (L := [(2, 69), (0, a0), (0, a1), (0, a2), (0, i42), (0, i41), (0, (i34 + 1)), (9, 0), (9, 0), (9, 0)]) ⟨Or.inr rfl, Or.inr rfl, Or.inr rfl, Or.inr rfl, Or.inr rfl, Or.inr rfl, Or.inr rfl, Or.inl rfl, Or.inl rfl, Or.inl rfl, trivial⟩ (ihlp78_35 (i42) (i41) ((i34 + 1))  (by omega) (by omega) (by omega) (by omega) (by omega) (by omega) (zRo_next hv0lp78_35 (by assumption) hv0lp90_44 (by omega) (by omega) (by omega) (by omega) (fun i hi => ⟨by rw [← hG70]; exact ib_70_m1 hI0 (by omega), by rw [← hG70]; exact ib_70_m2 hI0 (by omega)⟩)) (by omega) (by omega))
                                · intro h52
                                  refine zw_7 zr_191_99 rfl ?_
                                  refine zw_4 zr_191_100 rfl ?_
                                  refine zw_C zr_191_102 (Or.inl rfl) zm_181 rfl rfl ⟨Nat.le_of_ble_eq_true rfl, Nat.le_of_ble_eq_true rfl, Nat.le_of_ble_eq_true rfl, rfl, by decide⟩ (by omega) (P := (fun v m' => zW E (d) 191 105 [(2, 69), (0, a0), (0, a1), (0, a2), (0, i32), (0, i41), (0, i34), (0, i42), (0, i43), (9, 0)] (if v.1 = 9 then [] else v :: []) m' Q)) ?_ (fun _ _ h => h)
                                  generalize hQ1 : (fun v m' => zW E (d) 191 105 [(2, 69), (0, a0), (0, a1), (0, a2), (0, i32), (0, i41), (0, i34), (0, i42), (0, i43), (9, 0)] (if v.1 = 9 then [] else v :: []) m' Q) = Q1
                                  show zW E (d - 1) 181 0 [(2, 69), (0, i43)] [] m26 Q1
                                  refine zw_7 zr_181_0 rfl ?_
                                  refine zw_3 zr_181_1 rfl ?_
                                  refine zw_push zr_181_2 ?_
                                  refine zw_C zr_181_3 (Or.inl rfl) zm_144 rfl rfl ⟨Nat.le_of_ble_eq_true rfl, Nat.le_of_ble_eq_true rfl, Nat.le_of_ble_eq_true rfl, rfl, by decide⟩ (by omega) (P := (fun v m' => zW E (d - 1) 181 6 [(2, 69), (0, i43)] (if v.1 = 9 then [] else v :: []) m' Q1)) ?_ (fun _ _ h => h)
                                  generalize hQ2 : (fun v m' => zW E (d - 1) 181 6 [(2, 69), (0, i43)] (if v.1 = 9 then [] else v :: []) m' Q1) = Q2
                                  show zW E (d - 1 - 1) 144 0 [(2, 69), (0, i43), (0, 4)] [] m26 Q2
                                  refine zw_7 zr_144_0 rfl ?_
                                  refine zw_46r (s := 70) zr_144_1 rfl rfl rfl rfl ?_
                                  refine zw_push zr_144_4 ?_
                                  refine zw_push zr_144_6 ?_
                                  refine zw_3 zr_144_8 rfl ?_
                                  refine zw_18 zr_144_9 (by omega) ?_
                                  refine zw_16 zr_144_10 (by omega) ?_
                                  refine zw_3 zr_144_11 rfl ?_
                                  refine zw_16 zr_144_12 (by omega) ?_
                                  refine zw_48 (c := 70) (len := 826) zr_144_13 rfl rfl (by omega) (by omega) ?_
                                  intro x53 ex53
                                  have bx53 := ib_70_m4 hIm26 (k := (((90 + (6 * i43)) + 4)).toNat) (by omega)
                                  rw [← ex53] at bx53
                                  have qx53 : x53 = F70 (((90 + (6 * i43)) + 4)).toNat := by rw [← fm26_70]; exact ex53
                                  refine zw_R zr_144_14 (by decide) zm_144 (v := (0, x53)) rfl ?_
                                  rw [← hQ2]
                                  show zW E (d - 1) 181 6 [(2, 69), (0, i43)] [(0, x53)] m26 Q1
                                  refine zw_40_4 zr_181_6 ?_ ?_
                                  · intro h54
                                    refine zw_push zr_181_22 ?_
                                    refine zw_R zr_181_23 (by decide) zm_181 (v := (0, 0)) (zRetB (by omega)) ?_
                                    rw [← hQ1]
                                    show zW E (d) 191 105 [(2, 69), (0, a0), (0, a1), (0, a2), (0, i32), (0, i41), (0, i34), (0, i42), (0, i43), (9, 0)] [(0, 0)] m26 Q
                                    refine zw_40_1 zr_191_105 ?_ ?_
                                    · intro h55
                                      refine zw_15 (c := 1) (L' := [(2, 69), (0, a0), (0, a1), (0, a2), (0, i32), (0, i41), (0, i34), (0, i42), (0, (i43 + 1)), (9, 0)]) zr_191_179 rfl (by decide) (by omega) rfl ?_
                                      refine zw_42 zr_191_182 ?_
                                      exact zw_less (L := [(2, 69), (0, a0), (0, a1), (0, a2), (0, i32), (0, i41), (0, i34), (0, i42), (0, (i43 + 1)), (9, 0)]) ⟨Or.inr rfl, Or.inr rfl, Or.inr rfl, Or.inr rfl, Or.inr rfl, Or.inr rfl, Or.inr rfl, Or.inr rfl, Or.inr rfl, Or.inl rfl, trivial⟩ (ihlp90_44 (i41) (i42) ((i43 + 1))  (by omega) (by omega) (by omega) (by omega) (by omega) (by omega) (by first | exact zRn_s1 hv0lp90_44 (by omega) (by omega) | exact zRn_s2 hv0lp90_44 (by omega) (by omega) (by omega) | exact zRn_s3 hv0lp90_44 (by assumption : zRt f27 (zz) (i32) _ _) (by omega) (by omega) (by omega) (by omega) | exact zRn_s4 (s := zz) hv0lp90_44 (by omega) (by omega) (by omega) (by omega) | exact zRn_put hv0lp90_44 (by assumption : zRt f27 (zz) (i32) _ _) (by omega) (by omega) (by omega) (by omega) (by omega) (by omega) (by omega) (by omega)) (by omega) (by omega))
                                    · intro h57; omega
                                  · intro h58
                                    refine zw_7 zr_181_9 rfl ?_
                                    refine zw_3 zr_181_10 rfl ?_
                                    refine zw_push zr_181_11 ?_
                                    refine zw_C zr_181_12 (Or.inl rfl) zm_144 rfl rfl ⟨Nat.le_of_ble_eq_true rfl, Nat.le_of_ble_eq_true rfl, Nat.le_of_ble_eq_true rfl, rfl, by decide⟩ (by omega) (P := (fun v m' => zW E (d - 1) 181 15 [(2, 69), (0, i43)] (if v.1 = 9 then [] else v :: []) m' Q1)) ?_ (fun _ _ h => h)
                                    generalize hQ2 : (fun v m' => zW E (d - 1) 181 15 [(2, 69), (0, i43)] (if v.1 = 9 then [] else v :: []) m' Q1) = Q2
                                    show zW E (d - 1 - 1) 144 0 [(2, 69), (0, i43), (0, 5)] [] m26 Q2
                                    refine zw_7 zr_144_0 rfl ?_
                                    refine zw_46r (s := 70) zr_144_1 rfl rfl rfl rfl ?_
                                    refine zw_push zr_144_4 ?_
                                    refine zw_push zr_144_6 ?_
                                    refine zw_3 zr_144_8 rfl ?_
                                    refine zw_18 zr_144_9 (by omega) ?_
                                    refine zw_16 zr_144_10 (by omega) ?_
                                    refine zw_3 zr_144_11 rfl ?_
                                    refine zw_16 zr_144_12 (by omega) ?_
                                    refine zw_48 (c := 70) (len := 826) zr_144_13 rfl rfl (by omega) (by omega) ?_
                                    intro x59 ex59
                                    have bx59 := ib_70_m5 hIm26 (k := (((90 + (6 * i43)) + 5)).toNat) (by omega)
                                    rw [← ex59] at bx59
                                    have qx59 : x59 = F70 (((90 + (6 * i43)) + 5)).toNat := by rw [← fm26_70]; exact ex59
                                    refine zw_R zr_144_14 (by decide) zm_144 (v := (0, x59)) rfl ?_
                                    rw [← hQ2]
                                    show zW E (d - 1) 181 15 [(2, 69), (0, i43)] [(0, x59)] m26 Q1
                                    refine zw_40_4 zr_181_15 ?_ ?_
                                    · intro h60
                                      refine zw_push zr_181_22 ?_
                                      refine zw_R zr_181_23 (by decide) zm_181 (v := (0, 0)) (zRetB (by omega)) ?_
                                      rw [← hQ1]
                                      show zW E (d) 191 105 [(2, 69), (0, a0), (0, a1), (0, a2), (0, i32), (0, i41), (0, i34), (0, i42), (0, i43), (9, 0)] [(0, 0)] m26 Q
                                      refine zw_40_1 zr_191_105 ?_ ?_
                                      · intro h61
                                        refine zw_15 (c := 1) (L' := [(2, 69), (0, a0), (0, a1), (0, a2), (0, i32), (0, i41), (0, i34), (0, i42), (0, (i43 + 1)), (9, 0)]) zr_191_179 rfl (by decide) (by omega) rfl ?_
                                        refine zw_42 zr_191_182 ?_
                                        exact zw_less (L := [(2, 69), (0, a0), (0, a1), (0, a2), (0, i32), (0, i41), (0, i34), (0, i42), (0, (i43 + 1)), (9, 0)]) ⟨Or.inr rfl, Or.inr rfl, Or.inr rfl, Or.inr rfl, Or.inr rfl, Or.inr rfl, Or.inr rfl, Or.inr rfl, Or.inr rfl, Or.inl rfl, trivial⟩ (ihlp90_44 (i41) (i42) ((i43 + 1))  (by omega) (by omega) (by omega) (by omega) (by omega) (by omega) (by first | exact zRn_s1 hv0lp90_44 (by omega) (by omega) | exact zRn_s2 hv0lp90_44 (by omega) (by omega) (by omega) | exact zRn_s3 hv0lp90_44 (by assumption : zRt f27 (zz) (i32) _ _) (by omega) (by omega) (by omega) (by omega) | exact zRn_s4 (s := zz) hv0lp90_44 (by omega) (by omega) (by omega) (by omega) | exact zRn_put hv0lp90_44 (by assumption : zRt f27 (zz) (i32) _ _) (by omega) (by omega) (by omega) (by omega) (by omega) (by omega) (by omega) (by omega)) (by omega) (by omega))
                                      · intro h63; omega
                                    · intro h64
                                      refine zw_push zr_181_18 ?_
                                      refine zw_42 zr_181_19 ?_
                                      refine zw_R zr_181_23 (by decide) zm_181 (v := (0, 1)) (zRetB (by omega)) ?_
                                      rw [← hQ1]
                                      show zW E (d) 191 105 [(2, 69), (0, a0), (0, a1), (0, a2), (0, i32), (0, i41), (0, i34), (0, i42), (0, i43), (9, 0)] [(0, 1)] m26 Q
                                      refine zw_40_1 zr_191_105 ?_ ?_
                                      · intro h65; omega
                                      · intro h66
                                        refine zw_7 zr_191_108 rfl ?_
                                        refine zw_4 zr_191_109 rfl ?_
                                        refine zw_4 zr_191_111 rfl ?_
                                        refine zw_C zr_191_113 (Or.inl rfl) zm_171 rfl rfl ⟨Nat.le_of_ble_eq_true rfl, Nat.le_of_ble_eq_true rfl, Nat.le_of_ble_eq_true rfl, rfl, by decide⟩ (by omega) (P := (fun v m' => zW E (d) 191 116 [(2, 69), (0, a0), (0, a1), (0, a2), (0, i32), (0, i41), (0, i34), (0, i42), (0, i43), (9, 0)] (if v.1 = 9 then [] else v :: []) m' Q)) ?_ (fun _ _ h => h)
                                        generalize hQ1 : (fun v m' => zW E (d) 191 116 [(2, 69), (0, a0), (0, a1), (0, a2), (0, i32), (0, i41), (0, i34), (0, i42), (0, i43), (9, 0)] (if v.1 = 9 then [] else v :: []) m' Q) = Q1
                                        show zW E (d - 1) 171 0 [(2, 69), (0, i43), (0, i32)] [] m26 Q1
                                        refine zw_7 zr_171_0 rfl ?_
                                        refine zw_3 zr_171_1 rfl ?_
                                        refine zw_push zr_171_2 ?_
                                        refine zw_C zr_171_3 (Or.inl rfl) zm_144 rfl rfl ⟨Nat.le_of_ble_eq_true rfl, Nat.le_of_ble_eq_true rfl, Nat.le_of_ble_eq_true rfl, rfl, by decide⟩ (by omega) (P := (fun v m' => zW E (d - 1) 171 6 [(2, 69), (0, i43), (0, i32)] (if v.1 = 9 then [] else v :: []) m' Q1)) ?_ (fun _ _ h => h)
                                        generalize hQ2 : (fun v m' => zW E (d - 1) 171 6 [(2, 69), (0, i43), (0, i32)] (if v.1 = 9 then [] else v :: []) m' Q1) = Q2
                                        show zW E (d - 1 - 1) 144 0 [(2, 69), (0, i43), (0, 1)] [] m26 Q2
                                        refine zw_7 zr_144_0 rfl ?_
                                        refine zw_46r (s := 70) zr_144_1 rfl rfl rfl rfl ?_
                                        refine zw_push zr_144_4 ?_
                                        refine zw_push zr_144_6 ?_
                                        refine zw_3 zr_144_8 rfl ?_
                                        refine zw_18 zr_144_9 (by omega) ?_
                                        refine zw_16 zr_144_10 (by omega) ?_
                                        refine zw_3 zr_144_11 rfl ?_
                                        refine zw_16 zr_144_12 (by omega) ?_
                                        refine zw_48 (c := 70) (len := 826) zr_144_13 rfl rfl (by omega) (by omega) ?_
                                        intro x67 ex67
                                        have bx67 := ib_70_m1 hIm26 (k := (((90 + (6 * i43)) + 1)).toNat) (by omega)
                                        rw [← ex67] at bx67
                                        have qx67 : x67 = F70 (((90 + (6 * i43)) + 1)).toNat := by rw [← fm26_70]; exact ex67
                                        refine zw_R zr_144_14 (by decide) zm_144 (v := (0, x67)) rfl ?_
                                        rw [← hQ2]
                                        show zW E (d - 1) 171 6 [(2, 69), (0, i43), (0, i32)] [(0, x67)] m26 Q1
                                        refine zw_3 zr_171_6 rfl ?_
                                        refine zw_41_1 zr_171_7 ?_ ?_
                                        · intro h68
                                          refine zw_push zr_171_20 ?_
                                          refine zw_42 zr_171_21 ?_
                                          refine zw_R zr_171_25 (by decide) zm_171 (v := (0, 1)) (zRetB (by omega)) ?_
                                          rw [← hQ1]
                                          show zW E (d) 191 116 [(2, 69), (0, a0), (0, a1), (0, a2), (0, i32), (0, i41), (0, i34), (0, i42), (0, i43), (9, 0)] [(0, 1)] m26 Q
                                          refine zw_40_1 zr_191_116 ?_ ?_
                                          · intro h69; omega
                                          · intro h70
                                            refine zw_7 zr_191_119 rfl ?_
                                            refine zw_4 zr_191_120 rfl ?_
                                            refine zw_push zr_191_122 ?_
                                            refine zw_C zr_191_123 (Or.inl rfl) zm_144 rfl rfl ⟨Nat.le_of_ble_eq_true rfl, Nat.le_of_ble_eq_true rfl, Nat.le_of_ble_eq_true rfl, rfl, by decide⟩ (by omega) (P := (fun v m' => zW E (d) 191 126 [(2, 69), (0, a0), (0, a1), (0, a2), (0, i32), (0, i41), (0, i34), (0, i42), (0, i43), (9, 0)] (if v.1 = 9 then [] else v :: []) m' Q)) ?_ (fun _ _ h => h)
                                            generalize hQ1 : (fun v m' => zW E (d) 191 126 [(2, 69), (0, a0), (0, a1), (0, a2), (0, i32), (0, i41), (0, i34), (0, i42), (0, i43), (9, 0)] (if v.1 = 9 then [] else v :: []) m' Q) = Q1
                                            show zW E (d - 1) 144 0 [(2, 69), (0, i43), (0, 1)] [] m26 Q1
                                            refine zw_7 zr_144_0 rfl ?_
                                            refine zw_46r (s := 70) zr_144_1 rfl rfl rfl rfl ?_
                                            refine zw_push zr_144_4 ?_
                                            refine zw_push zr_144_6 ?_
                                            refine zw_3 zr_144_8 rfl ?_
                                            refine zw_18 zr_144_9 (by omega) ?_
                                            refine zw_16 zr_144_10 (by omega) ?_
                                            refine zw_3 zr_144_11 rfl ?_
                                            refine zw_16 zr_144_12 (by omega) ?_
                                            refine zw_48k (c := 70) (len := 826) zr_144_13 rfl rfl (by omega) (by omega) rfl ex67.symm ?_
                                            refine zw_R zr_144_14 (by decide) zm_144 (v := (0, x67)) rfl ?_
                                            rw [← hQ1]
                                            show zW E (d) 191 126 [(2, 69), (0, a0), (0, a1), (0, a2), (0, i32), (0, i41), (0, i34), (0, i42), (0, i43), (9, 0)] [(0, x67)] m26 Q
                                            refine zw_7 zr_191_126 rfl ?_
                                            refine zw_4 zr_191_127 rfl ?_
                                            refine zw_push zr_191_129 ?_
                                            refine zw_C zr_191_130 (Or.inl rfl) zm_144 rfl rfl ⟨Nat.le_of_ble_eq_true rfl, Nat.le_of_ble_eq_true rfl, Nat.le_of_ble_eq_true rfl, rfl, by decide⟩ (by omega) (P := (fun v m' => zW E (d) 191 133 [(2, 69), (0, a0), (0, a1), (0, a2), (0, i32), (0, i41), (0, i34), (0, i42), (0, i43), (9, 0)] (if v.1 = 9 then [(0, x67)] else v :: [(0, x67)]) m' Q)) ?_ (fun _ _ h => h)
                                            generalize hQ1 : (fun v m' => zW E (d) 191 133 [(2, 69), (0, a0), (0, a1), (0, a2), (0, i32), (0, i41), (0, i34), (0, i42), (0, i43), (9, 0)] (if v.1 = 9 then [(0, x67)] else v :: [(0, x67)]) m' Q) = Q1
                                            show zW E (d - 1) 144 0 [(2, 69), (0, i43), (0, 2)] [] m26 Q1
                                            refine zw_7 zr_144_0 rfl ?_
                                            refine zw_46r (s := 70) zr_144_1 rfl rfl rfl rfl ?_
                                            refine zw_push zr_144_4 ?_
                                            refine zw_push zr_144_6 ?_
                                            refine zw_3 zr_144_8 rfl ?_
                                            refine zw_18 zr_144_9 (by omega) ?_
                                            refine zw_16 zr_144_10 (by omega) ?_
                                            refine zw_3 zr_144_11 rfl ?_
                                            refine zw_16 zr_144_12 (by omega) ?_
                                            refine zw_48 (c := 70) (len := 826) zr_144_13 rfl rfl (by omega) (by omega) ?_
                                            intro x71 ex71
                                            have bx71 := ib_70_m2 hIm26 (k := (((90 + (6 * i43)) + 2)).toNat) (by omega)
                                            rw [← ex71] at bx71
                                            have qx71 : x71 = F70 (((90 + (6 * i43)) + 2)).toNat := by rw [← fm26_70]; exact ex71
                                            clear ex71
                                            refine zw_R zr_144_14 (by decide) zm_144 (v := (0, x71)) rfl ?_
                                            rw [← hQ1]
                                            show zW E (d) 191 133 [(2, 69), (0, a0), (0, a1), (0, a2), (0, i32), (0, i41), (0, i34), (0, i42), (0, i43), (9, 0)] [(0, x71), (0, x67)] m26 Q
                                            refine zw_16 zr_191_133 (by omega) ?_
                                            refine zw_4 zr_191_134 rfl ?_
                                            refine zw_17 zr_191_136 (by omega) ?_
                                            refine zw_10 (L' := [(2, 69), (0, a0), (0, a1), (0, a2), (0, i32), (0, i41), (0, i34), (0, i42), (0, i43), (0, ((x67 + x71) - i32))]) zr_191_137 (Nat.le_of_ble_eq_true rfl) rfl ?_
                                            refine zw_7 zr_191_139 rfl ?_
                                            refine zw_46r (s := 81) zr_191_140 rfl rfl rfl rfl ?_
                                            refine zw_4 zr_191_143 rfl ?_
                                            refine zw_48 (c := 81) (len := 10) zr_191_145 rfl rfl (by omega) (by omega) ?_
                                            intro x72 ex72
                                            have bx72 := ib_81 hIm26 (k := (((x67 + x71) - i32)).toNat) (by omega)
                                            rw [← ex72] at bx72
                                            have qx72 : x72 = f27 (((x67 + x71) - i32)).toNat := by rw [← fm26_81]; exact ex72
                                            clear ex72
                                            refine zw_7 zr_191_146 rfl ?_
                                            refine zw_46r (s := 81) zr_191_147 rfl rfl rfl rfl ?_
                                            refine zw_4 zr_191_150 rfl ?_
                                            refine zw_48 (c := 81) (len := 10) zr_191_152 rfl rfl (by omega) (by omega) ?_
                                            intro x73 ex73
                                            have bx73 := ib_81 hIm26 (k := (i32).toNat) (by omega)
                                            rw [← ex73] at bx73
                                            have qx73 : x73 = f27 (i32).toNat := by rw [← fm26_81]; exact ex73
                                            clear ex73
                                            have z74 : zRt f27 (((x67 + x71) - i32)) (i32) x72 x73 := ⟨qx72, qx73⟩
                                            refine zw_push zr_191_153 ?_
                                            refine zw_17 zr_191_154 (by omega) ?_
                                            refine zw_41_4 zr_191_155 ?_ ?_
                                            · intro h75
                                              refine zw_15 (c := 1) (L' := [(2, 69), (0, a0), (0, a1), (0, a2), (0, i32), (0, i41), (0, i34), (0, i42), (0, (i43 + 1)), (0, ((x67 + x71) - i32))]) zr_191_179 rfl (by decide) (by omega) rfl ?_
                                              refine zw_42 zr_191_182 ?_
                                              exact zw_less (L := [(2, 69), (0, a0), (0, a1), (0, a2), (0, i32), (0, i41), (0, i34), (0, i42), (0, (i43 + 1)), (9, 0)]) ⟨Or.inr rfl, Or.inr rfl, Or.inr rfl, Or.inr rfl, Or.inr rfl, Or.inr rfl, Or.inr rfl, Or.inr rfl, Or.inr rfl, Or.inl rfl, trivial⟩ (ihlp90_44 (i41) (i42) ((i43 + 1))  (by omega) (by omega) (by omega) (by omega) (by omega) (by omega) (by first | exact zRn_s1 hv0lp90_44 (by omega) (by omega) | exact zRn_s2 hv0lp90_44 (by omega) (by omega) (by omega) | exact zRn_s3 hv0lp90_44 (by assumption : zRt f27 (((x67 + x71) - i32)) (i32) _ _) (by omega) (by omega) (by omega) (by omega) | exact zRn_s4 (s := ((x67 + x71) - i32)) hv0lp90_44 (by omega) (by omega) (by omega) (by omega) | exact zRn_put hv0lp90_44 (by assumption : zRt f27 (((x67 + x71) - i32)) (i32) _ _) (by omega) (by omega) (by omega) (by omega) (by omega) (by omega) (by omega) (by omega)) (by omega) (by omega))
                                            · intro h77
                                              refine zw_4 zr_191_158 rfl ?_
                                              refine zw_push zr_191_160 ?_
                                              refine zw_41_1 zr_191_161 ?_ ?_
                                              · intro h78
                                                refine zw_4 zr_191_171 rfl ?_
                                                refine zw_10 (L' := [(2, 69), (0, a0), (0, a1), (0, a2), (0, i32), (0, i41), (0, i34), (0, ((x67 + x71) - i32)), (0, i43), (0, ((x67 + x71) - i32))]) zr_191_173 (Nat.le_of_ble_eq_true rfl) rfl ?_
                                                refine zw_4 zr_191_175 rfl ?_
                                                refine zw_10 (L' := [(2, 69), (0, a0), (0, a1), (0, a2), (0, i32), (0, i43), (0, i34), (0, ((x67 + x71) - i32)), (0, i43), (0, ((x67 + x71) - i32))]) zr_191_177 (Nat.le_of_ble_eq_true rfl) rfl ?_
                                                refine zw_15 (c := 1) (L' := [(2, 69), (0, a0), (0, a1), (0, a2), (0, i32), (0, i43), (0, i34), (0, ((x67 + x71) - i32)), (0, (i43 + 1)), (0, ((x67 + x71) - i32))]) zr_191_179 rfl (by decide) (by omega) rfl ?_
                                                refine zw_42 zr_191_182 ?_
                                                exact zw_less (L := [(2, 69), (0, a0), (0, a1), (0, a2), (0, i32), (0, i43), (0, i34), (0, ((x67 + x71) - i32)), (0, (i43 + 1)), (9, 0)]) ⟨Or.inr rfl, Or.inr rfl, Or.inr rfl, Or.inr rfl, Or.inr rfl, Or.inr rfl, Or.inr rfl, Or.inr rfl, Or.inr rfl, Or.inl rfl, trivial⟩ (ihlp90_44 (i43) (((x67 + x71) - i32)) ((i43 + 1))  (by omega) (by omega) (by omega) (by omega) (by omega) (by omega) (by first | exact zRn_s1 hv0lp90_44 (by omega) (by omega) | exact zRn_s2 hv0lp90_44 (by omega) (by omega) (by omega) | exact zRn_s3 hv0lp90_44 (by assumption : zRt f27 (((x67 + x71) - i32)) (i32) _ _) (by omega) (by omega) (by omega) (by omega) | exact zRn_s4 (s := ((x67 + x71) - i32)) hv0lp90_44 (by omega) (by omega) (by omega) (by omega) | exact zRn_put hv0lp90_44 (by assumption : zRt f27 (((x67 + x71) - i32)) (i32) _ _) (by omega) (by omega) (by omega) (by omega) (by omega) (by omega) (by omega) (by omega)) (by omega) (by omega))
                                              · intro h80
                                                refine zw_4 zr_191_164 rfl ?_
                                                refine zw_4 zr_191_166 rfl ?_
                                                refine zw_41_3 zr_191_168 ?_ ?_
                                                · intro h81
                                                  refine zw_15 (c := 1) (L' := [(2, 69), (0, a0), (0, a1), (0, a2), (0, i32), (0, i41), (0, i34), (0, i42), (0, (i43 + 1)), (0, ((x67 + x71) - i32))]) zr_191_179 rfl (by decide) (by omega) rfl ?_
                                                  refine zw_42 zr_191_182 ?_
                                                  exact zw_less (L := [(2, 69), (0, a0), (0, a1), (0, a2), (0, i32), (0, i41), (0, i34), (0, i42), (0, (i43 + 1)), (9, 0)]) ⟨Or.inr rfl, Or.inr rfl, Or.inr rfl, Or.inr rfl, Or.inr rfl, Or.inr rfl, Or.inr rfl, Or.inr rfl, Or.inr rfl, Or.inl rfl, trivial⟩ (ihlp90_44 (i41) (i42) ((i43 + 1))  (by omega) (by omega) (by omega) (by omega) (by omega) (by omega) (by first | exact zRn_s1 hv0lp90_44 (by omega) (by omega) | exact zRn_s2 hv0lp90_44 (by omega) (by omega) (by omega) | exact zRn_s3 hv0lp90_44 (by assumption : zRt f27 (((x67 + x71) - i32)) (i32) _ _) (by omega) (by omega) (by omega) (by omega) | exact zRn_s4 (s := ((x67 + x71) - i32)) hv0lp90_44 (by omega) (by omega) (by omega) (by omega) | exact zRn_put hv0lp90_44 (by assumption : zRt f27 (((x67 + x71) - i32)) (i32) _ _) (by omega) (by omega) (by omega) (by omega) (by omega) (by omega) (by omega) (by omega)) (by omega) (by omega))
                                                · intro h83
                                                  refine zw_4 zr_191_171 rfl ?_
                                                  refine zw_10 (L' := [(2, 69), (0, a0), (0, a1), (0, a2), (0, i32), (0, i41), (0, i34), (0, ((x67 + x71) - i32)), (0, i43), (0, ((x67 + x71) - i32))]) zr_191_173 (Nat.le_of_ble_eq_true rfl) rfl ?_
                                                  refine zw_4 zr_191_175 rfl ?_
                                                  refine zw_10 (L' := [(2, 69), (0, a0), (0, a1), (0, a2), (0, i32), (0, i43), (0, i34), (0, ((x67 + x71) - i32)), (0, i43), (0, ((x67 + x71) - i32))]) zr_191_177 (Nat.le_of_ble_eq_true rfl) rfl ?_
                                                  refine zw_15 (c := 1) (L' := [(2, 69), (0, a0), (0, a1), (0, a2), (0, i32), (0, i43), (0, i34), (0, ((x67 + x71) - i32)), (0, (i43 + 1)), (0, ((x67 + x71) - i32))]) zr_191_179 rfl (by decide) (by omega) rfl ?_
                                                  refine zw_42 zr_191_182 ?_
                                                  exact zw_less (L := [(2, 69), (0, a0), (0, a1), (0, a2), (0, i32), (0, i43), (0, i34), (0, ((x67 + x71) - i32)), (0, (i43 + 1)), (9, 0)]) ⟨Or.inr rfl, Or.inr rfl, Or.inr rfl, Or.inr rfl, Or.inr rfl, Or.inr rfl, Or.inr rfl, Or.inr rfl, Or.inr rfl, Or.inl rfl, trivial⟩ (ihlp90_44 (i43) (((x67 + x71) - i32)) ((i43 + 1))  (by omega) (by omega) (by omega) (by omega) (by omega) (by omega) (by first | exact zRn_s1 hv0lp90_44 (by omega) (by omega) | exact zRn_s2 hv0lp90_44 (by omega) (by omega) (by omega) | exact zRn_s3 hv0lp90_44 (by assumption : zRt f27 (((x67 + x71) - i32)) (i32) _ _) (by omega) (by omega) (by omega) (by omega) | exact zRn_s4 (s := ((x67 + x71) - i32)) hv0lp90_44 (by omega) (by omega) (by omega) (by omega) | exact zRn_put hv0lp90_44 (by assumption : zRt f27 (((x67 + x71) - i32)) (i32) _ _) (by omega) (by omega) (by omega) (by omega) (by omega) (by omega) (by omega) (by omega)) (by omega) (by omega))
                                        · intro h85
                                          refine zw_7 zr_171_10 rfl ?_
                                          refine zw_3 zr_171_11 rfl ?_
                                          refine zw_push zr_171_12 ?_
                                          refine zw_C zr_171_13 (Or.inl rfl) zm_144 rfl rfl ⟨Nat.le_of_ble_eq_true rfl, Nat.le_of_ble_eq_true rfl, Nat.le_of_ble_eq_true rfl, rfl, by decide⟩ (by omega) (P := (fun v m' => zW E (d - 1) 171 16 [(2, 69), (0, i43), (0, i32)] (if v.1 = 9 then [] else v :: []) m' Q1)) ?_ (fun _ _ h => h)
                                          generalize hQ2 : (fun v m' => zW E (d - 1) 171 16 [(2, 69), (0, i43), (0, i32)] (if v.1 = 9 then [] else v :: []) m' Q1) = Q2
                                          show zW E (d - 1 - 1) 144 0 [(2, 69), (0, i43), (0, 2)] [] m26 Q2
                                          refine zw_7 zr_144_0 rfl ?_
                                          refine zw_46r (s := 70) zr_144_1 rfl rfl rfl rfl ?_
                                          refine zw_push zr_144_4 ?_
                                          refine zw_push zr_144_6 ?_
                                          refine zw_3 zr_144_8 rfl ?_
                                          refine zw_18 zr_144_9 (by omega) ?_
                                          refine zw_16 zr_144_10 (by omega) ?_
                                          refine zw_3 zr_144_11 rfl ?_
                                          refine zw_16 zr_144_12 (by omega) ?_
                                          refine zw_48 (c := 70) (len := 826) zr_144_13 rfl rfl (by omega) (by omega) ?_
                                          intro x86 ex86
                                          have bx86 := ib_70_m2 hIm26 (k := (((90 + (6 * i43)) + 2)).toNat) (by omega)
                                          rw [← ex86] at bx86
                                          have qx86 : x86 = F70 (((90 + (6 * i43)) + 2)).toNat := by rw [← fm26_70]; exact ex86
                                          refine zw_R zr_144_14 (by decide) zm_144 (v := (0, x86)) rfl ?_
                                          rw [← hQ2]
                                          show zW E (d - 1) 171 16 [(2, 69), (0, i43), (0, i32)] [(0, x86)] m26 Q1
                                          refine zw_3 zr_171_16 rfl ?_
                                          refine zw_41_4 zr_171_17 ?_ ?_
                                          · intro h87
                                            refine zw_push zr_171_24 ?_
                                            refine zw_R zr_171_25 (by decide) zm_171 (v := (0, 0)) (zRetB (by omega)) ?_
                                            rw [← hQ1]
                                            show zW E (d) 191 116 [(2, 69), (0, a0), (0, a1), (0, a2), (0, i32), (0, i41), (0, i34), (0, i42), (0, i43), (9, 0)] [(0, 0)] m26 Q
                                            refine zw_40_1 zr_191_116 ?_ ?_
                                            · intro h88
                                              refine zw_15 (c := 1) (L' := [(2, 69), (0, a0), (0, a1), (0, a2), (0, i32), (0, i41), (0, i34), (0, i42), (0, (i43 + 1)), (9, 0)]) zr_191_179 rfl (by decide) (by omega) rfl ?_
                                              refine zw_42 zr_191_182 ?_
                                              exact zw_less (L := [(2, 69), (0, a0), (0, a1), (0, a2), (0, i32), (0, i41), (0, i34), (0, i42), (0, (i43 + 1)), (9, 0)]) ⟨Or.inr rfl, Or.inr rfl, Or.inr rfl, Or.inr rfl, Or.inr rfl, Or.inr rfl, Or.inr rfl, Or.inr rfl, Or.inr rfl, Or.inl rfl, trivial⟩ (ihlp90_44 (i41) (i42) ((i43 + 1))  (by omega) (by omega) (by omega) (by omega) (by omega) (by omega) (by first | exact zRn_s1 hv0lp90_44 (by omega) (by omega) | exact zRn_s2 hv0lp90_44 (by omega) (by omega) (by omega) | exact zRn_s3 hv0lp90_44 (by assumption : zRt f27 (zz) (i32) _ _) (by omega) (by omega) (by omega) (by omega) | exact zRn_s4 (s := zz) hv0lp90_44 (by omega) (by omega) (by omega) (by omega) | exact zRn_put hv0lp90_44 (by assumption : zRt f27 (zz) (i32) _ _) (by omega) (by omega) (by omega) (by omega) (by omega) (by omega) (by omega) (by omega)) (by omega) (by omega))
                                            · intro h90; omega
                                          · intro h91
                                            refine zw_push zr_171_20 ?_
                                            refine zw_42 zr_171_21 ?_
                                            refine zw_R zr_171_25 (by decide) zm_171 (v := (0, 1)) (zRetB (by omega)) ?_
                                            rw [← hQ1]
                                            show zW E (d) 191 116 [(2, 69), (0, a0), (0, a1), (0, a2), (0, i32), (0, i41), (0, i34), (0, i42), (0, i43), (9, 0)] [(0, 1)] m26 Q
                                            refine zw_40_1 zr_191_116 ?_ ?_
                                            · intro h92; omega
                                            · intro h93
                                              refine zw_7 zr_191_119 rfl ?_
                                              refine zw_4 zr_191_120 rfl ?_
                                              refine zw_push zr_191_122 ?_
                                              refine zw_C zr_191_123 (Or.inl rfl) zm_144 rfl rfl ⟨Nat.le_of_ble_eq_true rfl, Nat.le_of_ble_eq_true rfl, Nat.le_of_ble_eq_true rfl, rfl, by decide⟩ (by omega) (P := (fun v m' => zW E (d) 191 126 [(2, 69), (0, a0), (0, a1), (0, a2), (0, i32), (0, i41), (0, i34), (0, i42), (0, i43), (9, 0)] (if v.1 = 9 then [] else v :: []) m' Q)) ?_ (fun _ _ h => h)
                                              generalize hQ1 : (fun v m' => zW E (d) 191 126 [(2, 69), (0, a0), (0, a1), (0, a2), (0, i32), (0, i41), (0, i34), (0, i42), (0, i43), (9, 0)] (if v.1 = 9 then [] else v :: []) m' Q) = Q1
                                              show zW E (d - 1) 144 0 [(2, 69), (0, i43), (0, 1)] [] m26 Q1
                                              refine zw_7 zr_144_0 rfl ?_
                                              refine zw_46r (s := 70) zr_144_1 rfl rfl rfl rfl ?_
                                              refine zw_push zr_144_4 ?_
                                              refine zw_push zr_144_6 ?_
                                              refine zw_3 zr_144_8 rfl ?_
                                              refine zw_18 zr_144_9 (by omega) ?_
                                              refine zw_16 zr_144_10 (by omega) ?_
                                              refine zw_3 zr_144_11 rfl ?_
                                              refine zw_16 zr_144_12 (by omega) ?_
                                              refine zw_48k (c := 70) (len := 826) zr_144_13 rfl rfl (by omega) (by omega) rfl ex67.symm ?_
                                              refine zw_R zr_144_14 (by decide) zm_144 (v := (0, x67)) rfl ?_
                                              rw [← hQ1]
                                              show zW E (d) 191 126 [(2, 69), (0, a0), (0, a1), (0, a2), (0, i32), (0, i41), (0, i34), (0, i42), (0, i43), (9, 0)] [(0, x67)] m26 Q
                                              refine zw_7 zr_191_126 rfl ?_
                                              refine zw_4 zr_191_127 rfl ?_
                                              refine zw_push zr_191_129 ?_
                                              refine zw_C zr_191_130 (Or.inl rfl) zm_144 rfl rfl ⟨Nat.le_of_ble_eq_true rfl, Nat.le_of_ble_eq_true rfl, Nat.le_of_ble_eq_true rfl, rfl, by decide⟩ (by omega) (P := (fun v m' => zW E (d) 191 133 [(2, 69), (0, a0), (0, a1), (0, a2), (0, i32), (0, i41), (0, i34), (0, i42), (0, i43), (9, 0)] (if v.1 = 9 then [(0, x67)] else v :: [(0, x67)]) m' Q)) ?_ (fun _ _ h => h)
                                              generalize hQ1 : (fun v m' => zW E (d) 191 133 [(2, 69), (0, a0), (0, a1), (0, a2), (0, i32), (0, i41), (0, i34), (0, i42), (0, i43), (9, 0)] (if v.1 = 9 then [(0, x67)] else v :: [(0, x67)]) m' Q) = Q1
                                              show zW E (d - 1) 144 0 [(2, 69), (0, i43), (0, 2)] [] m26 Q1
                                              refine zw_7 zr_144_0 rfl ?_
                                              refine zw_46r (s := 70) zr_144_1 rfl rfl rfl rfl ?_
                                              refine zw_push zr_144_4 ?_
                                              refine zw_push zr_144_6 ?_
                                              refine zw_3 zr_144_8 rfl ?_
                                              refine zw_18 zr_144_9 (by omega) ?_
                                              refine zw_16 zr_144_10 (by omega) ?_
                                              refine zw_3 zr_144_11 rfl ?_
                                              refine zw_16 zr_144_12 (by omega) ?_
                                              refine zw_48k (c := 70) (len := 826) zr_144_13 rfl rfl (by omega) (by omega) rfl ex86.symm ?_
                                              refine zw_R zr_144_14 (by decide) zm_144 (v := (0, x86)) rfl ?_
                                              rw [← hQ1]
                                              show zW E (d) 191 133 [(2, 69), (0, a0), (0, a1), (0, a2), (0, i32), (0, i41), (0, i34), (0, i42), (0, i43), (9, 0)] [(0, x86), (0, x67)] m26 Q
                                              refine zw_16 zr_191_133 (by omega) ?_
                                              refine zw_4 zr_191_134 rfl ?_
                                              refine zw_17 zr_191_136 (by omega) ?_
                                              refine zw_10 (L' := [(2, 69), (0, a0), (0, a1), (0, a2), (0, i32), (0, i41), (0, i34), (0, i42), (0, i43), (0, ((x67 + x86) - i32))]) zr_191_137 (Nat.le_of_ble_eq_true rfl) rfl ?_
                                              refine zw_7 zr_191_139 rfl ?_
                                              refine zw_46r (s := 81) zr_191_140 rfl rfl rfl rfl ?_
                                              refine zw_4 zr_191_143 rfl ?_
                                              refine zw_48 (c := 81) (len := 10) zr_191_145 rfl rfl (by omega) (by omega) ?_
                                              intro x94 ex94
                                              have bx94 := ib_81 hIm26 (k := (((x67 + x86) - i32)).toNat) (by omega)
                                              rw [← ex94] at bx94
                                              have qx94 : x94 = f27 (((x67 + x86) - i32)).toNat := by rw [← fm26_81]; exact ex94
                                              clear ex94
                                              refine zw_7 zr_191_146 rfl ?_
                                              refine zw_46r (s := 81) zr_191_147 rfl rfl rfl rfl ?_
                                              refine zw_4 zr_191_150 rfl ?_
                                              refine zw_48 (c := 81) (len := 10) zr_191_152 rfl rfl (by omega) (by omega) ?_
                                              intro x95 ex95
                                              have bx95 := ib_81 hIm26 (k := (i32).toNat) (by omega)
                                              rw [← ex95] at bx95
                                              have qx95 : x95 = f27 (i32).toNat := by rw [← fm26_81]; exact ex95
                                              clear ex95
                                              have z96 : zRt f27 (((x67 + x86) - i32)) (i32) x94 x95 := ⟨qx94, qx95⟩
                                              refine zw_push zr_191_153 ?_
                                              refine zw_17 zr_191_154 (by omega) ?_
                                              refine zw_41_4 zr_191_155 ?_ ?_
                                              · intro h97
                                                refine zw_15 (c := 1) (L' := [(2, 69), (0, a0), (0, a1), (0, a2), (0, i32), (0, i41), (0, i34), (0, i42), (0, (i43 + 1)), (0, ((x67 + x86) - i32))]) zr_191_179 rfl (by decide) (by omega) rfl ?_
                                                refine zw_42 zr_191_182 ?_
                                                exact zw_less (L := [(2, 69), (0, a0), (0, a1), (0, a2), (0, i32), (0, i41), (0, i34), (0, i42), (0, (i43 + 1)), (9, 0)]) ⟨Or.inr rfl, Or.inr rfl, Or.inr rfl, Or.inr rfl, Or.inr rfl, Or.inr rfl, Or.inr rfl, Or.inr rfl, Or.inr rfl, Or.inl rfl, trivial⟩ (ihlp90_44 (i41) (i42) ((i43 + 1))  (by omega) (by omega) (by omega) (by omega) (by omega) (by omega) (by first | exact zRn_s1 hv0lp90_44 (by omega) (by omega) | exact zRn_s2 hv0lp90_44 (by omega) (by omega) (by omega) | exact zRn_s3 hv0lp90_44 (by assumption : zRt f27 (((x67 + x86) - i32)) (i32) _ _) (by omega) (by omega) (by omega) (by omega) | exact zRn_s4 (s := ((x67 + x86) - i32)) hv0lp90_44 (by omega) (by omega) (by omega) (by omega) | exact zRn_put hv0lp90_44 (by assumption : zRt f27 (((x67 + x86) - i32)) (i32) _ _) (by omega) (by omega) (by omega) (by omega) (by omega) (by omega) (by omega) (by omega)) (by omega) (by omega))
                                              · intro h99
                                                refine zw_4 zr_191_158 rfl ?_
                                                refine zw_push zr_191_160 ?_
                                                refine zw_41_1 zr_191_161 ?_ ?_
                                                · intro h100
                                                  refine zw_4 zr_191_171 rfl ?_
                                                  refine zw_10 (L' := [(2, 69), (0, a0), (0, a1), (0, a2), (0, i32), (0, i41), (0, i34), (0, ((x67 + x86) - i32)), (0, i43), (0, ((x67 + x86) - i32))]) zr_191_173 (Nat.le_of_ble_eq_true rfl) rfl ?_
                                                  refine zw_4 zr_191_175 rfl ?_
                                                  refine zw_10 (L' := [(2, 69), (0, a0), (0, a1), (0, a2), (0, i32), (0, i43), (0, i34), (0, ((x67 + x86) - i32)), (0, i43), (0, ((x67 + x86) - i32))]) zr_191_177 (Nat.le_of_ble_eq_true rfl) rfl ?_
                                                  refine zw_15 (c := 1) (L' := [(2, 69), (0, a0), (0, a1), (0, a2), (0, i32), (0, i43), (0, i34), (0, ((x67 + x86) - i32)), (0, (i43 + 1)), (0, ((x67 + x86) - i32))]) zr_191_179 rfl (by decide) (by omega) rfl ?_
                                                  refine zw_42 zr_191_182 ?_
                                                  exact zw_less (L := [(2, 69), (0, a0), (0, a1), (0, a2), (0, i32), (0, i43), (0, i34), (0, ((x67 + x86) - i32)), (0, (i43 + 1)), (9, 0)]) ⟨Or.inr rfl, Or.inr rfl, Or.inr rfl, Or.inr rfl, Or.inr rfl, Or.inr rfl, Or.inr rfl, Or.inr rfl, Or.inr rfl, Or.inl rfl, trivial⟩ (ihlp90_44 (i43) (((x67 + x86) - i32)) ((i43 + 1))  (by omega) (by omega) (by omega) (by omega) (by omega) (by omega) (by first | exact zRn_s1 hv0lp90_44 (by omega) (by omega) | exact zRn_s2 hv0lp90_44 (by omega) (by omega) (by omega) | exact zRn_s3 hv0lp90_44 (by assumption : zRt f27 (((x67 + x86) - i32)) (i32) _ _) (by omega) (by omega) (by omega) (by omega) | exact zRn_s4 (s := ((x67 + x86) - i32)) hv0lp90_44 (by omega) (by omega) (by omega) (by omega) | exact zRn_put hv0lp90_44 (by assumption : zRt f27 (((x67 + x86) - i32)) (i32) _ _) (by omega) (by omega) (by omega) (by omega) (by omega) (by omega) (by omega) (by omega)) (by omega) (by omega))
                                                · intro h102
                                                  refine zw_4 zr_191_164 rfl ?_
                                                  refine zw_4 zr_191_166 rfl ?_
                                                  refine zw_41_3 zr_191_168 ?_ ?_
                                                  · intro h103
                                                    refine zw_15 (c := 1) (L' := [(2, 69), (0, a0), (0, a1), (0, a2), (0, i32), (0, i41), (0, i34), (0, i42), (0, (i43 + 1)), (0, ((x67 + x86) - i32))]) zr_191_179 rfl (by decide) (by omega) rfl ?_
                                                    refine zw_42 zr_191_182 ?_
                                                    exact zw_less (L := [(2, 69), (0, a0), (0, a1), (0, a2), (0, i32), (0, i41), (0, i34), (0, i42), (0, (i43 + 1)), (9, 0)]) ⟨Or.inr rfl, Or.inr rfl, Or.inr rfl, Or.inr rfl, Or.inr rfl, Or.inr rfl, Or.inr rfl, Or.inr rfl, Or.inr rfl, Or.inl rfl, trivial⟩ (ihlp90_44 (i41) (i42) ((i43 + 1))  (by omega) (by omega) (by omega) (by omega) (by omega) (by omega) (by first | exact zRn_s1 hv0lp90_44 (by omega) (by omega) | exact zRn_s2 hv0lp90_44 (by omega) (by omega) (by omega) | exact zRn_s3 hv0lp90_44 (by assumption : zRt f27 (((x67 + x86) - i32)) (i32) _ _) (by omega) (by omega) (by omega) (by omega) | exact zRn_s4 (s := ((x67 + x86) - i32)) hv0lp90_44 (by omega) (by omega) (by omega) (by omega) | exact zRn_put hv0lp90_44 (by assumption : zRt f27 (((x67 + x86) - i32)) (i32) _ _) (by omega) (by omega) (by omega) (by omega) (by omega) (by omega) (by omega) (by omega)) (by omega) (by omega))
                                                  · intro h105
                                                    refine zw_4 zr_191_171 rfl ?_
                                                    refine zw_10 (L' := [(2, 69), (0, a0), (0, a1), (0, a2), (0, i32), (0, i41), (0, i34), (0, ((x67 + x86) - i32)), (0, i43), (0, ((x67 + x86) - i32))]) zr_191_173 (Nat.le_of_ble_eq_true rfl) rfl ?_
                                                    refine zw_4 zr_191_175 rfl ?_
                                                    refine zw_10 (L' := [(2, 69), (0, a0), (0, a1), (0, a2), (0, i32), (0, i43), (0, i34), (0, ((x67 + x86) - i32)), (0, i43), (0, ((x67 + x86) - i32))]) zr_191_177 (Nat.le_of_ble_eq_true rfl) rfl ?_
                                                    refine zw_15 (c := 1) (L' := [(2, 69), (0, a0), (0, a1), (0, a2), (0, i32), (0, i43), (0, i34), (0, ((x67 + x86) - i32)), (0, (i43 + 1)), (0, ((x67 + x86) - i32))]) zr_191_179 rfl (by decide) (by omega) rfl ?_
                                                    refine zw_42 zr_191_182 ?_
                                                    exact zw_less (L := [(2, 69), (0, a0), (0, a1), (0, a2), (0, i32), (0, i43), (0, i34), (0, ((x67 + x86) - i32)), (0, (i43 + 1)), (9, 0)]) ⟨Or.inr rfl, Or.inr rfl, Or.inr rfl, Or.inr rfl, Or.inr rfl, Or.inr rfl, Or.inr rfl, Or.inr rfl, Or.inr rfl, Or.inl rfl, trivial⟩ (ihlp90_44 (i43) (((x67 + x86) - i32)) ((i43 + 1))  (by omega) (by omega) (by omega) (by omega) (by omega) (by omega) (by first | exact zRn_s1 hv0lp90_44 (by omega) (by omega) | exact zRn_s2 hv0lp90_44 (by omega) (by omega) (by omega) | exact zRn_s3 hv0lp90_44 (by assumption : zRt f27 (((x67 + x86) - i32)) (i32) _ _) (by omega) (by omega) (by omega) (by omega) | exact zRn_s4 (s := ((x67 + x86) - i32)) hv0lp90_44 (by omega) (by omega) (by omega) (by omega) | exact zRn_put hv0lp90_44 (by assumption : zRt f27 (((x67 + x86) - i32)) (i32) _ _) (by omega) (by omega) (by omega) (by omega) (by omega) (by omega) (by omega) (by omega)) (by omega) (by omega))
                            exact lp90_44 _ (i33) ((-1)) (0)  (by omega) (by omega) (by omega) (by omega) (by omega) (by omega) (zRn_0) (by omega) (Nat.lt_succ_self _)
                      exact lp78_35 _ (a0) ((-1)) (0)  (by omega) (by omega) (by omega) (by omega) (by omega) (by omega) (zRo_0 (by omega)) (by omega) (Nat.lt_succ_self _)
                    · intro h109
                      refine zw_push zr_191_66 ?_
                      refine zw_R zr_191_68 (by decide) zm_191 (v := (0, (-5))) rfl ?_
                      rw [← hQ]; exact ⟨_, rfl, by omega, by omega, hIm26, hFm26, by first | exact rop_b rfl (by omega) | exact rop_r5 po1_m26 qx28 (by omega) (by omega) rfl | exact rop_rn po1_m26 qx28 (by omega) (by omega) (by omega) | exact rop_ro po1_m26 qx28 (by omega) (by omega) (by omega) rfl | exact rop_rf (by assumption) qx28 (by omega) (by omega) (by omega) zz (by omega)⟩
                  · intro h111
                    refine zw_7 zr_191_49 rfl ?_
                    refine zw_46r (s := 81) zr_191_50 rfl rfl rfl rfl ?_
                    refine zw_3 zr_191_53 rfl ?_
                    refine zw_48k (c := 81) (len := 10) zr_191_54 rfl rfl (by omega) (by omega) rfl ex28.symm ?_
                    refine zw_R zr_191_55 (by decide) zm_191 (v := (0, x28)) rfl ?_
                    rw [← hQ]; exact ⟨_, rfl, by omega, by omega, hIm26, hFm26, by first | exact rop_b rfl (by omega) | exact rop_r5 po1_m26 qx28 (by omega) (by omega) rfl | exact rop_rn po1_m26 qx28 (by omega) (by omega) (by omega) | exact rop_ro po1_m26 qx28 (by omega) (by omega) (by omega) rfl | exact rop_rf (by assumption) qx28 (by omega) (by omega) (by omega) zz (by omega)⟩
                · intro h113
                  refine zw_push zr_191_41 ?_
                  refine zw_R zr_191_43 (by decide) zm_191 (v := (0, (-5))) rfl ?_
                  rw [← hQ]; exact ⟨_, rfl, by omega, by omega, hIm26, hFm26, by first | exact rop_b rfl (by omega) | exact rop_r5 po1_m26 qx28 (by omega) (by omega) rfl | exact rop_rn po1_m26 qx28 (by omega) (by omega) (by omega) | exact rop_ro po1_m26 qx28 (by omega) (by omega) (by omega) rfl | exact rop_rf (by assumption) qx28 (by omega) (by omega) (by omega) zz (by omega)⟩
              · intro h115
                refine zw_push zr_191_21 ?_
                refine zw_R zr_191_23 (by decide) zm_191 (v := (0, (-10))) rfl ?_
                rw [← hQ]; exact ⟨_, rfl, by omega, by omega, hI0, hF0, by first | exact rop_b rfl (by omega) | exact rop_r5 zz qzz (by omega) (by omega) rfl | exact rop_rn zz qzz (by omega) (by omega) (by omega) | exact rop_ro zz qzz (by omega) (by omega) (by omega) rfl | exact rop_rf (by assumption) qzz (by omega) (by omega) (by omega) zz (by omega)⟩

abbrev W_76 : List (Nat × Nat) := [(61, 1000), (62, 1000)]
set_option maxHeartbeats 8000000 in
theorem th_76 {E : zE} {d : Nat} {m0 : zM} {g0 : Int} {g1 : Int} {g2 : Int} {g3 : Int} {F6 : Nat → Int} {F7 : Nat → Int} {F62 : Nat → Int} (hd : 3 ≤ d) (hI0 : zInv m0) (hg0 : m0 1 0 = g0) (hg1 : m0 1 1 = g1) (hg2 : m0 1 2 = g2) (hg3 : m0 1 3 = g3) (hG6 : m0 6 = F6) (hG7 : m0 7 = F7) (hG62 : m0 62 = F62) (hp0 : zPl F6 F7 g1 g0) : zC E d 76 [(2, 60)] m0 (fun v m' => ∃ r : Int, v = (1, r) ∧ 0 ≤ r ∧ r ≤ 1152921504606846975 ∧ zInv m' ∧ zFr W_76 m0 m' ∧ (zBs r (brs (fun o => edp F6 F7 g2 g3 g1 o g0) F6 F7 (zbt g2) (zbt g3)) g1)) := by
  have hF0 : zFr W_76 m0 m0 := zFr.rfl
  have bg0 := ib_1_0 hI0
  rw [hg0] at bg0
  have bg1 := ib_1_1 hI0
  rw [hg1] at bg1
  have bg2 := ib_1_2 hI0
  rw [hg2] at bg2
  have bg3 := ib_1_3 hI0
  rw [hg3] at bg3
  generalize hQ : (fun (v : zV) (m' : zM) => ∃ r : Int, v = (1, r) ∧ 0 ≤ r ∧ r ≤ 1152921504606846975 ∧ zInv m' ∧ zFr W_76 m0 m' ∧ (zBs r (brs (fun o => edp F6 F7 g2 g3 g1 o g0) F6 F7 (zbt g2) (zbt g3)) g1)) = Q
  show zW E d 76 0 [(2, 60), (9, 0), (9, 0), (9, 0), (9, 0), (9, 0), (9, 0), (9, 0)] [] m0 Q
  refine zw_7 zr_76_0 rfl ?_
  refine zw_46r (s := 1) zr_76_1 rfl rfl rfl rfl ?_
  refine zw_C zr_76_4 (Or.inl rfl) zm_53 rfl rfl ⟨Nat.le_of_ble_eq_true rfl, Nat.le_of_ble_eq_true rfl, Nat.le_of_ble_eq_true rfl, rfl, by decide⟩ (by omega) (th_53 (d := d - 1) (by omega) hI0  (g0 := g1) (g1 := g2) (g2 := g3)   hg1 hg2 hg3   ) ?_
  rintro _ _ ⟨r1, rfl, hr1a, hr1b, rfl, po0_r1⟩
  show zW E (d) 76 7 [(2, 60), (9, 0), (9, 0), (9, 0), (9, 0), (9, 0), (9, 0), (9, 0)] [(1, r1)] m0 Q
  refine zw_13 (L' := [(2, 60), (1, r1), (9, 0), (9, 0), (9, 0), (9, 0), (9, 0), (9, 0)]) zr_76_7 (Nat.le_of_ble_eq_true rfl) rfl ?_
  refine zw_push zr_76_8 ?_
  refine zw_13 (L' := [(2, 60), (1, r1), (9, 0), (1, 0), (9, 0), (9, 0), (9, 0), (9, 0)]) zr_76_9 (Nat.le_of_ble_eq_true rfl) rfl ?_
  refine zw_push zr_76_10 ?_
  refine zw_10 (L' := [(2, 60), (1, r1), (9, 0), (1, 0), (9, 0), (0, 0), (9, 0), (9, 0)]) zr_76_11 (Nat.le_of_ble_eq_true rfl) rfl ?_
  have lp13_6 : ∀ (nlp13_6 : Nat) (i2 i3 : Int) (f5 : Nat → Int) (m4 : zM), zInv m4 → zFr W_76 m0 m4 → m4 1 0 = g0 → m4 1 1 = g1 → m4 1 2 = g2 → m4 1 3 = g3 → m4 6 = F6 → m4 7 = F7 → m4 62 = f5 → 0 ≤ i2 → i2 ≤ 1152921504606846975 → 0 ≤ i3 → i3 ≤ 60 → (zBs i2 (brs (fun o => edp F6 F7 g2 g3 g1 o g0) F6 F7 (zbt g2) (zbt g3)) i3) → (i3 ≤ g1) → (60 - i3).toNat < nlp13_6 → zW E (d) 76 13 [(2, 60), (1, r1), (9, 0), (1, i2), (9, 0), (0, i3), (9, 0), (9, 0)] [] m4 Q := by
    intro nlp13_6
    induction nlp13_6 with
    | zero =>
      intros
      exact absurd (by assumption : _ < 0) (Nat.not_lt_zero _)
    | succ nlp13_6 ihlp13_6 =>
      intro i2 i3 f5 m4 hIm4 hFm4 km4_1_0 km4_1_1 km4_1_2 km4_1_3 fm4_6 fm4_7 fm4_62 li2 ui2 li3 ui3 hv0lp13_6 hv1lp13_6 hmlp13_6
      refine zw_4 zr_76_13 rfl ?_
      refine zw_7 zr_76_15 rfl ?_
      refine zw_46r (s := 1) zr_76_16 rfl rfl rfl rfl ?_
      refine zw_46i zr_76_19 km4_1_1 rfl rfl rfl ?_
      refine zw_41_3 zr_76_22 ?_ ?_
      · intro h8
        refine zw_5 zr_76_100 rfl ?_
        refine zw_R zr_76_101 (by decide) zm_76 (v := (1, i2)) rfl ?_
        rw [← hQ]; exact ⟨_, rfl, by omega, by omega, hIm4, hFm4, by have z := hv0lp13_6; rw [show i3 = g1 by omega] at z; exact z⟩
      · intro h10
        refine zw_push zr_76_25 ?_
        refine zw_4 zr_76_26 rfl ?_
        refine zw_33q zr_76_28 (by omega) ?_
        intro x11 ex11 hx11a hx11b
        refine zw_14 (L' := [(2, 60), (1, r1), (9, 0), (1, i2), (9, 0), (0, i3), (1, x11), (9, 0)]) zr_76_29 (Nat.le_of_ble_eq_true rfl) rfl ?_
        refine zw_5 zr_76_31 rfl ?_
        refine zw_6 zr_76_32 rfl ?_
        refine zw_30p (s := i3) zr_76_34 ex11 (by omega) (by omega) ?_
        intro x12 hx12a
        refine zw_push zr_76_35 ?_
        refine zw_39_1 zr_76_36 zr_76_37 ?_ ?_
        · intro h13
          refine zw_15 (c := 1) (L' := [(2, 60), (1, r1), (9, 0), (1, i2), (9, 0), (0, (i3 + 1)), (1, x11), (9, 0)]) zr_76_94 rfl (by decide) (by omega) rfl ?_
          refine zw_42 zr_76_97 ?_
          exact zw_less (L := [(2, 60), (1, r1), (9, 0), (1, i2), (9, 0), (0, (i3 + 1)), (9, 0), (9, 0)]) ⟨Or.inr rfl, Or.inr rfl, Or.inl rfl, Or.inr rfl, Or.inl rfl, Or.inr rfl, Or.inl rfl, Or.inl rfl, trivial⟩ (ihlp13_6 (i2) ((i3 + 1)) (f5) m4 hIm4 hFm4  km4_1_0 km4_1_1 km4_1_2 km4_1_3 fm4_6 fm4_7 fm4_62 (by omega) (by omega) (by omega) (by omega) (by first | exact zBs_no hv0lp13_6 (by omega) (brs_no (by assumption) (by omega) (by omega)) | exact zBs_put hv0lp13_6 ei2 (by omega) (brs_t (by assumption) (by omega)) | exact zBs_no hv0lp13_6 (by omega) (brs_f (by assumption) (by omega))) (by omega) (by omega))
        · intro h15
          refine zw_7 zr_76_40 rfl ?_
          refine zw_5 zr_76_41 rfl ?_
          refine zw_6 zr_76_42 rfl ?_
          refine zw_push zr_76_44 ?_
          refine zw_32c zr_76_47 (by omega) ?_
          refine zw_30n (y := x11) zr_76_48 (by omega) (by omega) ?_
          intro x16 ex16 hx16a hx16b
          refine zw_C zr_76_49 (Or.inl rfl) zm_66 rfl rfl ⟨Nat.le_of_ble_eq_true rfl, Nat.le_of_ble_eq_true rfl, Nat.le_of_ble_eq_true rfl, rfl, by decide⟩ (by omega) (th_66 (d := d - 1) (by omega) hIm4 (a0 := x16) (g0 := g1)  (F61 := m4 61) (F6 := F6) (F7 := F7) km4_1_1 rfl fm4_6 fm4_7 (by omega) ) ?_
          rintro _ m17 ⟨rfl, hIm17, gm17, po0_m17⟩
          have hFm17 : zFr W_76 m0 m17 := hFm4.trans gm17 rfl
          have km17_1_0 : m17 1 0 = g0 := (gm17 1 0 rfl).trans km4_1_0
          have km17_1_1 : m17 1 1 = g1 := (gm17 1 1 rfl).trans km4_1_1
          have km17_1_2 : m17 1 2 = g2 := (gm17 1 2 rfl).trans km4_1_2
          have km17_1_3 : m17 1 3 = g3 := (gm17 1 3 rfl).trans km4_1_3
          have fm17_6 : m17 6 = F6 := (funext fun k => gm17 6 k rfl).trans fm4_6
          have fm17_7 : m17 7 = F7 := (funext fun k => gm17 7 k rfl).trans fm4_7
          have fm17_62 : m17 62 = f5 := (funext fun k => gm17 62 k rfl).trans fm4_62
          show zW E (d) 76 52 [(2, 60), (1, r1), (9, 0), (1, i2), (9, 0), (0, i3), (1, x11), (9, 0)] [] m17 Q
          refine zw_7 zr_76_52 rfl ?_
          refine zw_7 zr_76_53 rfl ?_
          refine zw_46r (s := 1) zr_76_54 rfl rfl rfl rfl ?_
          refine zw_46r (s := 6) zr_76_57 rfl rfl rfl rfl ?_
          refine zw_4 zr_76_60 rfl ?_
          refine zw_48 (c := 6) (len := 60) zr_76_62 rfl rfl (by omega) (by omega) ?_
          intro x18 ex18
          have bx18 := ib_6 hIm17 (k := (i3).toNat) (by omega)
          rw [← ex18] at bx18
          have qx18 : x18 = F6 (i3).toNat := by rw [← fm17_6]; exact ex18
          clear ex18
          refine zw_C zr_76_63 (Or.inl rfl) zm_67 rfl rfl ⟨Nat.le_of_ble_eq_true rfl, Nat.le_of_ble_eq_true rfl, Nat.le_of_ble_eq_true rfl, rfl, by decide⟩ (by omega) (th_67 (d := d - 1) (by omega) hIm17 (a0 := x18) (g0 := g0)  (F61 := m17 61) (F62 := f5) km17_1_0 rfl fm17_62 (by omega) ) ?_
          rintro _ m19 ⟨rfl, hIm19, gm19, po0_m19⟩
          have hFm19 : zFr W_76 m0 m19 := hFm17.trans gm19 rfl
          have km19_1_0 : m19 1 0 = g0 := (gm19 1 0 rfl).trans km17_1_0
          have km19_1_1 : m19 1 1 = g1 := (gm19 1 1 rfl).trans km17_1_1
          have km19_1_2 : m19 1 2 = g2 := (gm19 1 2 rfl).trans km17_1_2
          have km19_1_3 : m19 1 3 = g3 := (gm19 1 3 rfl).trans km17_1_3
          have fm19_6 : m19 6 = F6 := (funext fun k => gm19 6 k rfl).trans fm17_6
          have fm19_7 : m19 7 = F7 := (funext fun k => gm19 7 k rfl).trans fm17_7
          obtain ⟨f20, fm19_62⟩ : ∃ f, m19 62 = f := ⟨_, rfl⟩
          try rw [fm19_62] at po0_m19
          show zW E (d) 76 66 [(2, 60), (1, r1), (9, 0), (1, i2), (9, 0), (0, i3), (1, x11), (9, 0)] [] m19 Q
          refine zw_5 zr_76_66 rfl ?_
          refine zw_7 zr_76_67 rfl ?_
          refine zw_46r (s := 62) zr_76_68 rfl rfl rfl rfl ?_
          refine zw_7 zr_76_71 rfl ?_
          refine zw_46r (s := 1) zr_76_72 rfl rfl rfl rfl ?_
          refine zw_46r (s := 7) zr_76_75 rfl rfl rfl rfl ?_
          refine zw_4 zr_76_78 rfl ?_
          refine zw_48 (c := 7) (len := 60) zr_76_80 rfl rfl (by omega) (by omega) ?_
          intro x21 ex21
          have bx21 := ib_7 hIm19 (k := (i3).toNat) (by omega)
          rw [← ex21] at bx21
          have qx21 : x21 = F7 (i3).toNat := by rw [← fm19_7]; exact ex21
          clear ex21
          refine zw_48 (c := 62) (len := 10) zr_76_81 rfl rfl (by omega) (by omega) ?_
          intro x22 ex22
          have bx22 := ib_62 hIm19 (k := (x21).toNat) (by omega)
          rw [← ex22] at bx22
          have qx22 : x22 = f20 (x21).toNat := by rw [← fm19_62]; exact ex22
          clear ex22
          refine zw_push zr_76_82 ?_
          have z23 := hp0 (i3).toNat (by omega) (by omega)
          have z24 := brs_c po0_m17 po0_m19 (by assumption : zSy _ g2 g3 g1) (by assumption) ex11 (by omega) (by omega) (by omega) (by omega) qx22 (by omega)
          refine zw_41_4 zr_76_83 ?_ ?_
          · intro h25
            refine zw_push zr_76_91 ?_
            refine zw_31z zr_76_92 (by omega) ?_
            refine zw_13 (L' := [(2, 60), (1, r1), (9, 0), (1, i2), (9, 0), (0, i3), (1, x11), (9, 0)]) zr_76_93 (Nat.le_of_ble_eq_true rfl) rfl ?_
            refine zw_15 (c := 1) (L' := [(2, 60), (1, r1), (9, 0), (1, i2), (9, 0), (0, (i3 + 1)), (1, x11), (9, 0)]) zr_76_94 rfl (by decide) (by omega) rfl ?_
            refine zw_42 zr_76_97 ?_
            exact zw_less (L := [(2, 60), (1, r1), (9, 0), (1, i2), (9, 0), (0, (i3 + 1)), (9, 0), (9, 0)]) ⟨Or.inr rfl, Or.inr rfl, Or.inl rfl, Or.inr rfl, Or.inl rfl, Or.inr rfl, Or.inl rfl, Or.inl rfl, trivial⟩ (ihlp13_6 (i2) ((i3 + 1)) (f20) m19 hIm19 hFm19  km19_1_0 km19_1_1 km19_1_2 km19_1_3 fm19_6 fm19_7 fm19_62 (by omega) (by omega) (by omega) (by omega) (by first | exact zBs_no hv0lp13_6 (by omega) (brs_no (by assumption) (by omega) (by omega)) | exact zBs_put hv0lp13_6 ei2 (by omega) (brs_t (by assumption) (by omega)) | exact zBs_no hv0lp13_6 (by omega) (brs_f (by assumption) (by omega))) (by omega) (by omega))
          · intro h27
            refine zw_6 zr_76_86 rfl ?_
            refine zw_42 zr_76_88 ?_
            refine zw_31p (s := i3) zr_76_92 ex11 (by omega) (by omega) ?_
            intro x28 ex28 hx28a hx28b
            refine zw_13 (L' := [(2, 60), (1, r1), (9, 0), (1, x28), (9, 0), (0, i3), (1, x11), (9, 0)]) zr_76_93 (Nat.le_of_ble_eq_true rfl) rfl ?_
            refine zw_15 (c := 1) (L' := [(2, 60), (1, r1), (9, 0), (1, x28), (9, 0), (0, (i3 + 1)), (1, x11), (9, 0)]) zr_76_94 rfl (by decide) (by omega) rfl ?_
            refine zw_42 zr_76_97 ?_
            exact zw_less (L := [(2, 60), (1, r1), (9, 0), (1, x28), (9, 0), (0, (i3 + 1)), (9, 0), (9, 0)]) ⟨Or.inr rfl, Or.inr rfl, Or.inl rfl, Or.inr rfl, Or.inl rfl, Or.inr rfl, Or.inl rfl, Or.inl rfl, trivial⟩ (ihlp13_6 (x28) ((i3 + 1)) (f20) m19 hIm19 hFm19  km19_1_0 km19_1_1 km19_1_2 km19_1_3 fm19_6 fm19_7 fm19_62 (by omega) (by omega) (by omega) (by omega) (by first | exact zBs_no hv0lp13_6 (by omega) (brs_no (by assumption) (by omega) (by omega)) | exact zBs_put hv0lp13_6 ex28 (by omega) (brs_t (by assumption) (by omega)) | exact zBs_no hv0lp13_6 (by omega) (brs_f (by assumption) (by omega))) (by omega) (by omega))
  exact lp13_6 _ (0) (0) (F62) m0 hI0 hF0  hg0 hg1 hg2 hg3 hG6 hG7 hG62 (by omega) (by omega) (by omega) (by omega) (zBs_0) (by omega) (Nat.lt_succ_self _)

abbrev W_122 : List (Nat × Nat) := [(61, 1000), (62, 1000)]
set_option maxHeartbeats 8000000 in
theorem th_122 {E : zE} {d : Nat} {m0 : zM} {g0 : Int} {g1 : Int} {g2 : Int} {g3 : Int} {F6 : Nat → Int} {F7 : Nat → Int} (hd : 4 ≤ d) (hI0 : zInv m0) (hg0 : m0 1 0 = g0) (hg1 : m0 1 1 = g1) (hg2 : m0 1 2 = g2) (hg3 : m0 1 3 = g3) (hG6 : m0 6 = F6) (hG7 : m0 7 = F7) (hp0 : zPl F6 F7 g1 g0) : zC E d 122 [(2, 0)] m0 (fun v m' => ∃ r : Int, v = (1, r) ∧ 0 ≤ r ∧ r ≤ 1152921504606846975 ∧ zInv m' ∧ zFr W_122 m0 m' ∧ (0 ≤ r) ∧ (zBs r (brs (fun o => edp F6 F7 g2 g3 g1 o g0) F6 F7 (zbt g2) (zbt g3)) g1)) := by
  have hF0 : zFr W_122 m0 m0 := zFr.rfl
  have bg0 := ib_1_0 hI0
  rw [hg0] at bg0
  have bg1 := ib_1_1 hI0
  rw [hg1] at bg1
  have bg2 := ib_1_2 hI0
  rw [hg2] at bg2
  have bg3 := ib_1_3 hI0
  rw [hg3] at bg3
  generalize hQ : (fun (v : zV) (m' : zM) => ∃ r : Int, v = (1, r) ∧ 0 ≤ r ∧ r ≤ 1152921504606846975 ∧ zInv m' ∧ zFr W_122 m0 m' ∧ (0 ≤ r) ∧ (zBs r (brs (fun o => edp F6 F7 g2 g3 g1 o g0) F6 F7 (zbt g2) (zbt g3)) g1)) = Q
  show zW E d 122 0 [(2, 0)] [] m0 Q
  refine zw_7 zr_122_0 rfl ?_
  refine zw_46r (s := 60) zr_122_1 rfl rfl rfl rfl ?_
  refine zw_C zr_122_4 (Or.inl rfl) zm_76 rfl rfl ⟨Nat.le_of_ble_eq_true rfl, Nat.le_of_ble_eq_true rfl, Nat.le_of_ble_eq_true rfl, rfl, by decide⟩ (by omega) (th_76 (d := d - 1) (by omega) hI0  (g0 := g0) (g1 := g1) (g2 := g2) (g3 := g3)  (F6 := F6) (F7 := F7) (F62 := m0 62) hg0 hg1 hg2 hg3 hG6 hG7 rfl  (hp0)) ?_
  rintro _ m2 ⟨r3, rfl, hr3a, hr3b, hIm2, gm2, po0_r3⟩
  have hFm2 : zFr W_122 m0 m2 := hF0.trans gm2 rfl
  have km2_1_0 : m2 1 0 = g0 := (gm2 1 0 rfl).trans hg0
  have km2_1_1 : m2 1 1 = g1 := (gm2 1 1 rfl).trans hg1
  have km2_1_2 : m2 1 2 = g2 := (gm2 1 2 rfl).trans hg2
  have km2_1_3 : m2 1 3 = g3 := (gm2 1 3 rfl).trans hg3
  have fm2_6 : m2 6 = F6 := (funext fun k => gm2 6 k rfl).trans hG6
  have fm2_7 : m2 7 = F7 := (funext fun k => gm2 7 k rfl).trans hG7
  show zW E (d) 122 7 [(2, 0)] [(1, r3)] m2 Q
  refine zw_R zr_122_7 (by decide) zm_122 (v := (1, r3)) rfl ?_
  rw [← hQ]; exact ⟨_, rfl, by omega, by omega, hIm2, hFm2, by omega, po0_r3⟩

abbrev W_192 : List (Nat × Nat) := [(81, 1000)]
set_option maxHeartbeats 8000000 in
theorem th_192 {E : zE} {d : Nat} {m0 : zM} {g0 : Int} {F70 : Nat → Int} {F81 : Nat → Int} (hd : 4 ≤ d) (hI0 : zInv m0) (hg0 : m0 70 823 = g0) (hG70 : m0 70 = F70) (hG81 : m0 81 = F81) : zC E d 192 [(2, 69)] m0 (fun v m' => ∃ r : Int, v = (1, r) ∧ 0 ≤ r ∧ r ≤ 1152921504606846975 ∧ zInv m' ∧ zFr W_192 m0 m' ∧ (0 ≤ r) ∧ (zBs r (brs (fun o => edr F70 g0 o) (fun i => F70 (91 + 6 * i)) (fun i => F70 (92 + 6 * i)) (fun i => F70 (94 + 6 * i)) (fun i => F70 (95 + 6 * i))) g0)) := by
  have hF0 : zFr W_192 m0 m0 := zFr.rfl
  have bg0 : 0 ≤ m0 70 823 ∧ m0 70 823 ≤ 60 := ib_70_meetings hI0 (by omega)
  rw [hg0] at bg0
  generalize hQ : (fun (v : zV) (m' : zM) => ∃ r : Int, v = (1, r) ∧ 0 ≤ r ∧ r ≤ 1152921504606846975 ∧ zInv m' ∧ zFr W_192 m0 m' ∧ (0 ≤ r) ∧ (zBs r (brs (fun o => edr F70 g0 o) (fun i => F70 (91 + 6 * i)) (fun i => F70 (92 + 6 * i)) (fun i => F70 (94 + 6 * i)) (fun i => F70 (95 + 6 * i))) g0)) = Q
  show zW E d 192 0 [(2, 69), (9, 0), (9, 0), (9, 0)] [] m0 Q
  refine zw_push zr_192_0 ?_
  refine zw_13 (L' := [(2, 69), (1, 0), (9, 0), (9, 0)]) zr_192_1 (Nat.le_of_ble_eq_true rfl) rfl ?_
  refine zw_push zr_192_2 ?_
  refine zw_9 (L' := [(2, 69), (1, 0), (9, 0), (0, 0)]) zr_192_3 (Nat.le_of_ble_eq_true rfl) rfl ?_
  have lp4_5 : ∀ (nlp4_5 : Nat) (i1 i2 : Int) (f4 : Nat → Int) (m3 : zM), zInv m3 → zFr W_192 m0 m3 → m3 70 823 = g0 → m3 70 = F70 → m3 81 = f4 → 0 ≤ i1 → i1 ≤ 1152921504606846975 → 0 ≤ i2 → i2 ≤ 60 → (zBs i1 (brs (fun o => edr F70 g0 o) (fun i => F70 (91 + 6 * i)) (fun i => F70 (92 + 6 * i)) (fun i => F70 (94 + 6 * i)) (fun i => F70 (95 + 6 * i))) i2) → (i2 ≤ g0) → (60 - i2).toNat < nlp4_5 → zW E (d) 192 4 [(2, 69), (1, i1), (9, 0), (0, i2)] [] m3 Q := by
    intro nlp4_5
    induction nlp4_5 with
    | zero =>
      intros
      exact absurd (by assumption : _ < 0) (Nat.not_lt_zero _)
    | succ nlp4_5 ihlp4_5 =>
      intro i1 i2 f4 m3 hIm3 hFm3 km3_70_823 fm3_70 fm3_81 li1 ui1 li2 ui2 hv0lp4_5 hv1lp4_5 hmlp4_5
      have z7 : F70 ((90 + (6 * i2)) + 1).toNat = F70 (91 + 6 * (i2).toNat) := congrArg F70 (by omega)
      have z8 : F70 ((90 + (6 * i2)) + 2).toNat = F70 (92 + 6 * (i2).toNat) := congrArg F70 (by omega)
      have z9 : F70 ((90 + (6 * i2)) + 4).toNat = F70 (94 + 6 * (i2).toNat) := congrArg F70 (by omega)
      have z10 : F70 ((90 + (6 * i2)) + 5).toNat = F70 (95 + 6 * (i2).toNat) := congrArg F70 (by omega)
      refine zw_3 zr_192_4 rfl ?_
      refine zw_7 zr_192_5 rfl ?_
      refine zw_C zr_192_6 (Or.inl rfl) zm_142 rfl rfl ⟨Nat.le_of_ble_eq_true rfl, Nat.le_of_ble_eq_true rfl, Nat.le_of_ble_eq_true rfl, rfl, by decide⟩ (by omega) (P := (fun v m' => zW E (d) 192 9 [(2, 69), (1, i1), (9, 0), (0, i2)] (if v.1 = 9 then [(0, i2)] else v :: [(0, i2)]) m' Q)) ?_ (fun _ _ h => h)
      generalize hQ1 : (fun v m' => zW E (d) 192 9 [(2, 69), (1, i1), (9, 0), (0, i2)] (if v.1 = 9 then [(0, i2)] else v :: [(0, i2)]) m' Q) = Q1
      show zW E (d - 1) 142 0 [(2, 69)] [] m3 Q1
      refine zw_7 zr_142_0 rfl ?_
      refine zw_46r (s := 70) zr_142_1 rfl rfl rfl rfl ?_
      refine zw_push zr_142_4 ?_
      refine zw_48k (c := 70) (len := 826) zr_142_7 rfl rfl (by omega) (by omega) (show (823 : Int).toNat = 823 by omega) km3_70_823 ?_
      refine zw_R zr_142_8 (by decide) zm_142 (v := (0, g0)) rfl ?_
      rw [← hQ1]
      show zW E (d) 192 9 [(2, 69), (1, i1), (9, 0), (0, i2)] [(0, g0), (0, i2)] m3 Q
      refine zw_41_3 zr_192_9 ?_ ?_
      · intro h11
        refine zw_5 zr_192_63 rfl ?_
        refine zw_R zr_192_64 (by decide) zm_192 (v := (1, i1)) rfl ?_
        rw [← hQ]; exact ⟨_, rfl, by omega, by omega, hIm3, hFm3, by omega, by have z := hv0lp4_5; rw [show i2 = g0 by omega] at z; exact z⟩
      · intro h14
        refine zw_7 zr_192_12 rfl ?_
        refine zw_3 zr_192_13 rfl ?_
        refine zw_C zr_192_14 (Or.inl rfl) zm_181 rfl rfl ⟨Nat.le_of_ble_eq_true rfl, Nat.le_of_ble_eq_true rfl, Nat.le_of_ble_eq_true rfl, rfl, by decide⟩ (by omega) (P := (fun v m' => zW E (d) 192 17 [(2, 69), (1, i1), (9, 0), (0, i2)] (if v.1 = 9 then [] else v :: []) m' Q)) ?_ (fun _ _ h => h)
        generalize hQ1 : (fun v m' => zW E (d) 192 17 [(2, 69), (1, i1), (9, 0), (0, i2)] (if v.1 = 9 then [] else v :: []) m' Q) = Q1
        show zW E (d - 1) 181 0 [(2, 69), (0, i2)] [] m3 Q1
        refine zw_7 zr_181_0 rfl ?_
        refine zw_3 zr_181_1 rfl ?_
        refine zw_push zr_181_2 ?_
        refine zw_C zr_181_3 (Or.inl rfl) zm_144 rfl rfl ⟨Nat.le_of_ble_eq_true rfl, Nat.le_of_ble_eq_true rfl, Nat.le_of_ble_eq_true rfl, rfl, by decide⟩ (by omega) (P := (fun v m' => zW E (d - 1) 181 6 [(2, 69), (0, i2)] (if v.1 = 9 then [] else v :: []) m' Q1)) ?_ (fun _ _ h => h)
        generalize hQ2 : (fun v m' => zW E (d - 1) 181 6 [(2, 69), (0, i2)] (if v.1 = 9 then [] else v :: []) m' Q1) = Q2
        show zW E (d - 1 - 1) 144 0 [(2, 69), (0, i2), (0, 4)] [] m3 Q2
        refine zw_7 zr_144_0 rfl ?_
        refine zw_46r (s := 70) zr_144_1 rfl rfl rfl rfl ?_
        refine zw_push zr_144_4 ?_
        refine zw_push zr_144_6 ?_
        refine zw_3 zr_144_8 rfl ?_
        refine zw_18 zr_144_9 (by omega) ?_
        refine zw_16 zr_144_10 (by omega) ?_
        refine zw_3 zr_144_11 rfl ?_
        refine zw_16 zr_144_12 (by omega) ?_
        refine zw_48 (c := 70) (len := 826) zr_144_13 rfl rfl (by omega) (by omega) ?_
        intro x15 ex15
        have bx15 := ib_70_m4 hIm3 (k := (((90 + (6 * i2)) + 4)).toNat) (by omega)
        rw [← ex15] at bx15
        have qx15 : x15 = F70 (((90 + (6 * i2)) + 4)).toNat := by rw [← fm3_70]; exact ex15
        clear ex15
        refine zw_R zr_144_14 (by decide) zm_144 (v := (0, x15)) rfl ?_
        rw [← hQ2]
        show zW E (d - 1) 181 6 [(2, 69), (0, i2)] [(0, x15)] m3 Q1
        refine zw_40_4 zr_181_6 ?_ ?_
        · intro h16
          refine zw_push zr_181_22 ?_
          refine zw_R zr_181_23 (by decide) zm_181 (v := (0, 0)) (zRetB (by omega)) ?_
          rw [← hQ1]
          show zW E (d) 192 17 [(2, 69), (1, i1), (9, 0), (0, i2)] [(0, 0)] m3 Q
          refine zw_40_1 zr_192_17 ?_ ?_
          · intro h17
            refine zw_15 (c := 1) (L' := [(2, 69), (1, i1), (9, 0), (0, (i2 + 1))]) zr_192_57 rfl (by decide) (by omega) rfl ?_
            refine zw_42 zr_192_60 ?_
            exact zw_less (L := [(2, 69), (1, i1), (9, 0), (0, (i2 + 1))]) ⟨Or.inr rfl, Or.inr rfl, Or.inl rfl, Or.inr rfl, trivial⟩ (ihlp4_5 (i1) ((i2 + 1)) (f4) m3 hIm3 hFm3  km3_70_823 fm3_70 fm3_81 (by omega) (by omega) (by omega) (by omega) (by first | exact zBs_no hv0lp4_5 (by omega) (brr_no (by omega)) | exact zBs_put hv0lp4_5 ei1 (by omega) (brr_t (by assumption) (by omega)) | exact zBs_no hv0lp4_5 (by omega) (brr_f (by assumption) (by omega))) (by omega) (by omega))
          · intro h19; omega
        · intro h20
          refine zw_7 zr_181_9 rfl ?_
          refine zw_3 zr_181_10 rfl ?_
          refine zw_push zr_181_11 ?_
          refine zw_C zr_181_12 (Or.inl rfl) zm_144 rfl rfl ⟨Nat.le_of_ble_eq_true rfl, Nat.le_of_ble_eq_true rfl, Nat.le_of_ble_eq_true rfl, rfl, by decide⟩ (by omega) (P := (fun v m' => zW E (d - 1) 181 15 [(2, 69), (0, i2)] (if v.1 = 9 then [] else v :: []) m' Q1)) ?_ (fun _ _ h => h)
          generalize hQ2 : (fun v m' => zW E (d - 1) 181 15 [(2, 69), (0, i2)] (if v.1 = 9 then [] else v :: []) m' Q1) = Q2
          show zW E (d - 1 - 1) 144 0 [(2, 69), (0, i2), (0, 5)] [] m3 Q2
          refine zw_7 zr_144_0 rfl ?_
          refine zw_46r (s := 70) zr_144_1 rfl rfl rfl rfl ?_
          refine zw_push zr_144_4 ?_
          refine zw_push zr_144_6 ?_
          refine zw_3 zr_144_8 rfl ?_
          refine zw_18 zr_144_9 (by omega) ?_
          refine zw_16 zr_144_10 (by omega) ?_
          refine zw_3 zr_144_11 rfl ?_
          refine zw_16 zr_144_12 (by omega) ?_
          refine zw_48 (c := 70) (len := 826) zr_144_13 rfl rfl (by omega) (by omega) ?_
          intro x21 ex21
          have bx21 := ib_70_m5 hIm3 (k := (((90 + (6 * i2)) + 5)).toNat) (by omega)
          rw [← ex21] at bx21
          have qx21 : x21 = F70 (((90 + (6 * i2)) + 5)).toNat := by rw [← fm3_70]; exact ex21
          clear ex21
          refine zw_R zr_144_14 (by decide) zm_144 (v := (0, x21)) rfl ?_
          rw [← hQ2]
          show zW E (d - 1) 181 15 [(2, 69), (0, i2)] [(0, x21)] m3 Q1
          refine zw_40_4 zr_181_15 ?_ ?_
          · intro h22
            refine zw_push zr_181_22 ?_
            refine zw_R zr_181_23 (by decide) zm_181 (v := (0, 0)) (zRetB (by omega)) ?_
            rw [← hQ1]
            show zW E (d) 192 17 [(2, 69), (1, i1), (9, 0), (0, i2)] [(0, 0)] m3 Q
            refine zw_40_1 zr_192_17 ?_ ?_
            · intro h23
              refine zw_15 (c := 1) (L' := [(2, 69), (1, i1), (9, 0), (0, (i2 + 1))]) zr_192_57 rfl (by decide) (by omega) rfl ?_
              refine zw_42 zr_192_60 ?_
              exact zw_less (L := [(2, 69), (1, i1), (9, 0), (0, (i2 + 1))]) ⟨Or.inr rfl, Or.inr rfl, Or.inl rfl, Or.inr rfl, trivial⟩ (ihlp4_5 (i1) ((i2 + 1)) (f4) m3 hIm3 hFm3  km3_70_823 fm3_70 fm3_81 (by omega) (by omega) (by omega) (by omega) (by first | exact zBs_no hv0lp4_5 (by omega) (brr_no (by omega)) | exact zBs_put hv0lp4_5 ei1 (by omega) (brr_t (by assumption) (by omega)) | exact zBs_no hv0lp4_5 (by omega) (brr_f (by assumption) (by omega))) (by omega) (by omega))
            · intro h25; omega
          · intro h26
            refine zw_push zr_181_18 ?_
            refine zw_42 zr_181_19 ?_
            refine zw_R zr_181_23 (by decide) zm_181 (v := (0, 1)) (zRetB (by omega)) ?_
            rw [← hQ1]
            show zW E (d) 192 17 [(2, 69), (1, i1), (9, 0), (0, i2)] [(0, 1)] m3 Q
            refine zw_40_1 zr_192_17 ?_ ?_
            · intro h27; omega
            · intro h28
              refine zw_7 zr_192_20 rfl ?_
              refine zw_7 zr_192_21 rfl ?_
              refine zw_3 zr_192_22 rfl ?_
              refine zw_push zr_192_23 ?_
              refine zw_C zr_192_24 (Or.inl rfl) zm_144 rfl rfl ⟨Nat.le_of_ble_eq_true rfl, Nat.le_of_ble_eq_true rfl, Nat.le_of_ble_eq_true rfl, rfl, by decide⟩ (by omega) (P := (fun v m' => zW E (d) 192 27 [(2, 69), (1, i1), (9, 0), (0, i2)] (if v.1 = 9 then [(2, 69)] else v :: [(2, 69)]) m' Q)) ?_ (fun _ _ h => h)
              generalize hQ1 : (fun v m' => zW E (d) 192 27 [(2, 69), (1, i1), (9, 0), (0, i2)] (if v.1 = 9 then [(2, 69)] else v :: [(2, 69)]) m' Q) = Q1
              show zW E (d - 1) 144 0 [(2, 69), (0, i2), (0, 1)] [] m3 Q1
              refine zw_7 zr_144_0 rfl ?_
              refine zw_46r (s := 70) zr_144_1 rfl rfl rfl rfl ?_
              refine zw_push zr_144_4 ?_
              refine zw_push zr_144_6 ?_
              refine zw_3 zr_144_8 rfl ?_
              refine zw_18 zr_144_9 (by omega) ?_
              refine zw_16 zr_144_10 (by omega) ?_
              refine zw_3 zr_144_11 rfl ?_
              refine zw_16 zr_144_12 (by omega) ?_
              refine zw_48 (c := 70) (len := 826) zr_144_13 rfl rfl (by omega) (by omega) ?_
              intro x29 ex29
              have bx29 := ib_70_m1 hIm3 (k := (((90 + (6 * i2)) + 1)).toNat) (by omega)
              rw [← ex29] at bx29
              have qx29 : x29 = F70 (((90 + (6 * i2)) + 1)).toNat := by rw [← fm3_70]; exact ex29
              clear ex29
              refine zw_R zr_144_14 (by decide) zm_144 (v := (0, x29)) rfl ?_
              rw [← hQ1]
              show zW E (d) 192 27 [(2, 69), (1, i1), (9, 0), (0, i2)] [(0, x29), (2, 69)] m3 Q
              refine zw_3 zr_192_27 rfl ?_
              refine zw_C zr_192_28 (Or.inl rfl) zm_188 rfl rfl ⟨Nat.le_of_ble_eq_true rfl, Nat.le_of_ble_eq_true rfl, Nat.le_of_ble_eq_true rfl, rfl, by decide⟩ (by omega) (th_188 (d := d - 1) (by omega) hIm3 (a0 := x29) (a1 := i2) (g0 := g0)  (F70 := F70) (F81 := f4) km3_70_823 fm3_70 fm3_81 (by omega) (by omega) ) ?_
              rintro _ m30 ⟨rfl, hIm30, gm30, po0_m30, po1_m30⟩
              have hFm30 : zFr W_192 m0 m30 := hFm3.trans gm30 rfl
              have km30_70_823 : m30 70 823 = g0 := (gm30 70 823 rfl).trans km3_70_823
              have fm30_70 : m30 70 = F70 := (funext fun k => gm30 70 k rfl).trans fm3_70
              obtain ⟨f31, fm30_81⟩ : ∃ f, m30 81 = f := ⟨_, rfl⟩
              try rw [fm30_81] at po0_m30
              try rw [fm30_81] at po1_m30
              show zW E (d) 192 31 [(2, 69), (1, i1), (9, 0), (0, i2)] [] m30 Q
              refine zw_5 zr_192_31 rfl ?_
              refine zw_7 zr_192_32 rfl ?_
              refine zw_46r (s := 81) zr_192_33 rfl rfl rfl rfl ?_
              refine zw_7 zr_192_36 rfl ?_
              refine zw_3 zr_192_37 rfl ?_
              refine zw_push zr_192_38 ?_
              refine zw_C zr_192_39 (Or.inl rfl) zm_144 rfl rfl ⟨Nat.le_of_ble_eq_true rfl, Nat.le_of_ble_eq_true rfl, Nat.le_of_ble_eq_true rfl, rfl, by decide⟩ (by omega) (P := (fun v m' => zW E (d) 192 42 [(2, 69), (1, i1), (9, 0), (0, i2)] (if v.1 = 9 then [(2, 81), (1, i1)] else v :: [(2, 81), (1, i1)]) m' Q)) ?_ (fun _ _ h => h)
              generalize hQ1 : (fun v m' => zW E (d) 192 42 [(2, 69), (1, i1), (9, 0), (0, i2)] (if v.1 = 9 then [(2, 81), (1, i1)] else v :: [(2, 81), (1, i1)]) m' Q) = Q1
              show zW E (d - 1) 144 0 [(2, 69), (0, i2), (0, 2)] [] m30 Q1
              refine zw_7 zr_144_0 rfl ?_
              refine zw_46r (s := 70) zr_144_1 rfl rfl rfl rfl ?_
              refine zw_push zr_144_4 ?_
              refine zw_push zr_144_6 ?_
              refine zw_3 zr_144_8 rfl ?_
              refine zw_18 zr_144_9 (by omega) ?_
              refine zw_16 zr_144_10 (by omega) ?_
              refine zw_3 zr_144_11 rfl ?_
              refine zw_16 zr_144_12 (by omega) ?_
              refine zw_48 (c := 70) (len := 826) zr_144_13 rfl rfl (by omega) (by omega) ?_
              intro x32 ex32
              have bx32 := ib_70_m2 hIm30 (k := (((90 + (6 * i2)) + 2)).toNat) (by omega)
              rw [← ex32] at bx32
              have qx32 : x32 = F70 (((90 + (6 * i2)) + 2)).toNat := by rw [← fm30_70]; exact ex32
              clear ex32
              refine zw_R zr_144_14 (by decide) zm_144 (v := (0, x32)) rfl ?_
              rw [← hQ1]
              show zW E (d) 192 42 [(2, 69), (1, i1), (9, 0), (0, i2)] [(0, x32), (2, 81), (1, i1)] m30 Q
              refine zw_48 (c := 81) (len := 10) zr_192_42 rfl rfl (by omega) (by omega) ?_
              intro x33 ex33
              have bx33 := ib_81 hIm30 (k := (x32).toNat) (by omega)
              rw [← ex33] at bx33
              have qx33 : x33 = f31 (x32).toNat := by rw [← fm30_81]; exact ex33
              clear ex33
              refine zw_push zr_192_43 ?_
              have z34 := brr_c po1_m30 (by omega) (by omega) (by omega) (by omega) qx33
              refine zw_41_0 zr_192_45 ?_ ?_
              · intro h35
                refine zw_push zr_192_54 ?_
                refine zw_31z zr_192_55 (by omega) ?_
                refine zw_13 (L' := [(2, 69), (1, i1), (9, 0), (0, i2)]) zr_192_56 (Nat.le_of_ble_eq_true rfl) rfl ?_
                refine zw_15 (c := 1) (L' := [(2, 69), (1, i1), (9, 0), (0, (i2 + 1))]) zr_192_57 rfl (by decide) (by omega) rfl ?_
                refine zw_42 zr_192_60 ?_
                exact zw_less (L := [(2, 69), (1, i1), (9, 0), (0, (i2 + 1))]) ⟨Or.inr rfl, Or.inr rfl, Or.inl rfl, Or.inr rfl, trivial⟩ (ihlp4_5 (i1) ((i2 + 1)) (f31) m30 hIm30 hFm30  km30_70_823 fm30_70 fm30_81 (by omega) (by omega) (by omega) (by omega) (by first | exact zBs_no hv0lp4_5 (by omega) (brr_no (by omega)) | exact zBs_put hv0lp4_5 ei1 (by omega) (brr_t (by assumption) (by omega)) | exact zBs_no hv0lp4_5 (by omega) (brr_f (by assumption) (by omega))) (by omega) (by omega))
              · intro h37
                refine zw_push zr_192_48 ?_
                refine zw_3 zr_192_49 rfl ?_
                refine zw_33q zr_192_50 (by omega) ?_
                intro x38 ex38 hx38a hx38b
                refine zw_42 zr_192_51 ?_
                refine zw_31p (s := i2) zr_192_55 ex38 (by omega) (by omega) ?_
                intro x39 ex39 hx39a hx39b
                refine zw_13 (L' := [(2, 69), (1, x39), (9, 0), (0, i2)]) zr_192_56 (Nat.le_of_ble_eq_true rfl) rfl ?_
                refine zw_15 (c := 1) (L' := [(2, 69), (1, x39), (9, 0), (0, (i2 + 1))]) zr_192_57 rfl (by decide) (by omega) rfl ?_
                refine zw_42 zr_192_60 ?_
                exact zw_less (L := [(2, 69), (1, x39), (9, 0), (0, (i2 + 1))]) ⟨Or.inr rfl, Or.inr rfl, Or.inl rfl, Or.inr rfl, trivial⟩ (ihlp4_5 (x39) ((i2 + 1)) (f31) m30 hIm30 hFm30  km30_70_823 fm30_70 fm30_81 (by omega) (by omega) (by omega) (by omega) (by first | exact zBs_no hv0lp4_5 (by omega) (brr_no (by omega)) | exact zBs_put hv0lp4_5 ex39 (by omega) (brr_t (by assumption) (by omega)) | exact zBs_no hv0lp4_5 (by omega) (brr_f (by assumption) (by omega))) (by omega) (by omega))
  exact lp4_5 _ (0) (0) (F81) m0 hI0 hF0  hg0 hG70 hG81 (by omega) (by omega) (by omega) (by omega) (zBs_0) (by omega) (Nat.lt_succ_self _)
