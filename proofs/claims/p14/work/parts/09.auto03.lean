abbrev W_13 : List (Nat × Nat) := [(45, 1), (45, 6), (45, 7), (45, 8), (48, 1000)]
def rs_13 (E : zE) (d : Nat) : Prop := ∀ (m0 : zM) (a0 : Int) (g0 : Int) (g1 : Int) (g2 : Int) (g3 : Int) (g4 : Int) (F47 : Nat → Int) (F48 : Nat → Int), (10 * (8 - g0) + (6 - a0)).toNat + 6 ≤ d → zInv m0 → (m0 45 7 = g0) → (m0 45 6 = g1) → (m0 45 1 = g2) → (m0 45 8 = g3) → (m0 45 5 = g4) → (m0 47 = F47) → (m0 48 = F48) → (0 ≤ a0 ∧ a0 ≤ 5) → (g2 = -1) → (0 ≤ g3 ∧ g3 ≤ g1 ∧ g1 ≤ g4) → zC E d 13 [(2, 45), (0, a0)] m0 (fun v m' => v = (9, 0) ∧ zInv m' ∧ zFr W_13 m0 m' ∧ (zLv (chf F47 g4) a0 g0 g1 g3 (m' 48) (m' 45 6) (m' 45 8) (m' 45 1)) ∧ (zFrm F48 (m' 48) g3) ∧ (m' 45 1 ≠ -1 ∨ (g1 < m' 45 6 ∧ m' 45 8 - g3 ≤ m' 45 6 - g1)) ∧ (m' 45 6 ≤ g4 ∧ g3 ≤ m' 45 8) ∧ (m' 45 7 = g0))
abbrev W_14 : List (Nat × Nat) := [(45, 1), (45, 6), (45, 7), (45, 8), (48, 1000)]
def rs_14 (E : zE) (d : Nat) : Prop := ∀ (m0 : zM) (g0 : Int) (g1 : Int) (g2 : Int) (g3 : Int) (g4 : Int) (F47 : Nat → Int) (F48 : Nat → Int), (10 * (8 - g0)).toNat + 6 ≤ d → zInv m0 → (m0 45 7 = g0) → (m0 45 6 = g1) → (m0 45 1 = g2) → (m0 45 8 = g3) → (m0 45 5 = g4) → (m0 47 = F47) → (m0 48 = F48) → (g2 = -1) → (0 ≤ g3 ∧ g3 ≤ g1 ∧ g1 ≤ g4) → zC E d 14 [(2, 45)] m0 (fun v m' => v = (9, 0) ∧ zInv m' ∧ zFr W_14 m0 m' ∧ (zLv (chf F47 g4) 5 g0 g1 g3 (m' 48) (m' 45 6) (m' 45 8) (m' 45 1)) ∧ (zFrm F48 (m' 48) g3) ∧ (m' 45 1 ≠ -1 ∨ (g1 < m' 45 6 ∧ m' 45 8 - g3 ≤ m' 45 6 - g1)) ∧ (m' 45 6 ≤ g4 ∧ g3 ≤ m' 45 8) ∧ (m' 45 7 = g0))
abbrev W_12 : List (Nat × Nat) := [(45, 1), (45, 6), (45, 7), (45, 8), (48, 1000)]
def rs_12 (E : zE) (d : Nat) : Prop := ∀ (m0 : zM) (g0 : Int) (g1 : Int) (g2 : Int) (g3 : Int) (g4 : Int) (F47 : Nat → Int) (F48 : Nat → Int), (10 * (8 - g0)).toNat + 5 ≤ d → zInv m0 → (m0 45 7 = g0) → (m0 45 6 = g1) → (m0 45 1 = g2) → (m0 45 8 = g3) → (m0 45 5 = g4) → (m0 47 = F47) → (m0 48 = F48) → (g1 ≤ 49) → (g2 = -1) → (0 ≤ g3 ∧ g3 ≤ g1 ∧ g1 < g4) → (chf F47 g4 g1.toNat = 40) → zC E d 12 [(2, 45)] m0 (fun v m' => v = (9, 0) ∧ zInv m' ∧ zFr W_12 m0 m' ∧ (zCr (chf F47 g4) g0 g1 g3 (m' 48) (m' 45 6) (m' 45 8) (m' 45 1)) ∧ (zFrm F48 (m' 48) g3) ∧ (m' 45 1 ≠ -1 ∨ (g1 < m' 45 6 ∧ m' 45 8 - g3 ≤ m' 45 6 - g1)) ∧ (m' 45 6 ≤ g4 ∧ g3 ≤ m' 45 8) ∧ (m' 45 7 = g0))
set_option maxHeartbeats 8000000 in
theorem tr_13 {E : zE} {d : Nat} (ih13 : rs_13 E (d - 1)) (ih14 : rs_14 E (d - 1)) (ih12 : rs_12 E (d - 1)) : rs_13 E d := by
  intro m0 a0 g0 g1 g2 g3 g4 F47 F48 hd hI0 hg0 hg1 hg2 hg3 hg4 hG47 hG48 ha0 hp0 hp1
  have hF0 : zFr W_13 m0 m0 := zFr.rfl
  have bg0 := ib_45_7 hI0
  rw [hg0] at bg0
  have bg1 := ib_45_6 hI0
  rw [hg1] at bg1
  have bg2 := hI0.fi (c := 45) (k := 1) rfl
  rw [hg2] at bg2
  have bg3 := ib_45_8 hI0
  rw [hg3] at bg3
  have bg4 := ib_45_5 hI0
  rw [hg4] at bg4
  generalize hQ : (fun (v : zV) (m' : zM) => v = (9, 0) ∧ zInv m' ∧ zFr W_13 m0 m' ∧ (zLv (chf F47 g4) a0 g0 g1 g3 (m' 48) (m' 45 6) (m' 45 8) (m' 45 1)) ∧ (zFrm F48 (m' 48) g3) ∧ (m' 45 1 ≠ -1 ∨ (g1 < m' 45 6 ∧ m' 45 8 - g3 ≤ m' 45 6 - g1)) ∧ (m' 45 6 ≤ g4 ∧ g3 ≤ m' 45 8) ∧ (m' 45 7 = g0)) = Q
  show zW E d 13 0 [(2, 45), (0, a0), (9, 0), (9, 0), (9, 0)] [] m0 Q
  refine zw_3 zr_13_0 rfl ?_
  refine zw_push zr_13_1 ?_
  refine zw_41_0 zr_13_2 ?_ ?_
  · intro h1
    refine zw_7 zr_13_10 rfl ?_
    refine zw_3 zr_13_11 rfl ?_
    refine zw_push zr_13_12 ?_
    refine zw_16 zr_13_13 (by omega) ?_
    refine zw_C zr_13_14 (Or.inl rfl) zm_13 rfl rfl ⟨Nat.le_of_ble_eq_true rfl, Nat.le_of_ble_eq_true rfl, Nat.le_of_ble_eq_true rfl, rfl, by decide⟩ (by omega) (ih13 m0 ((a0 + 1)) (g0) (g1) (g2) (g3) (g4) (F47) (F48) (by omega) hI0 hg0 hg1 hg2 hg3 hg4 hG47 hG48 (by omega) (by omega) (by omega)) ?_
    rintro _ m2 ⟨rfl, hIm2, gm2, po0_m2, po1_m2, po2_m2, po3_m2, po4_m2⟩
    have hFm2 : zFr W_13 m0 m2 := hF0.trans gm2 rfl
    have km2_45_5 : m2 45 5 = g4 := (gm2 45 5 rfl).trans hg4
    have fm2_47 : m2 47 = F47 := (funext fun k => gm2 47 k rfl).trans hG47
    obtain ⟨f3, fm2_48⟩ : ∃ f, m2 48 = f := ⟨_, rfl⟩
    try rw [fm2_48] at po0_m2
    try rw [fm2_48] at po1_m2
    obtain ⟨f4, ef4⟩ : ∃ v, m2 45 1 = v := ⟨_, rfl⟩
    have bf4 := hIm2.fi (c := 45) (k := 1) rfl
    rw [ef4] at bf4
    rw [ef4] at po0_m2
    rw [ef4] at po2_m2
    obtain ⟨f5, ef5⟩ : ∃ v, m2 45 6 = v := ⟨_, rfl⟩
    have bf5 := ib_45_6 hIm2
    rw [ef5] at bf5
    rw [ef5] at po0_m2
    rw [ef5] at po2_m2
    rw [ef5] at po3_m2
    obtain ⟨f6, ef6⟩ : ∃ v, m2 45 8 = v := ⟨_, rfl⟩
    have bf6 := ib_45_8 hIm2
    rw [ef6] at bf6
    rw [ef6] at po0_m2
    rw [ef6] at po2_m2
    rw [ef6] at po3_m2
    show zW E (d) 13 17 [(2, 45), (0, a0), (9, 0), (9, 0), (9, 0)] [] m2 Q
    refine zw_3 zr_13_17 rfl ?_
    refine zw_push zr_13_18 ?_
    refine zw_41_4 zr_13_19 ?_ ?_
    · intro h7
      refine zw_push zr_13_26 ?_
      refine zw_9 (L' := [(2, 45), (0, a0), (0, 50), (9, 0), (9, 0)]) zr_13_28 (Nat.le_of_ble_eq_true rfl) rfl ?_
      refine zw_push zr_13_29 ?_
      refine zw_9 (L' := [(2, 45), (0, a0), (0, 50), (0, 0), (9, 0)]) zr_13_30 (Nat.le_of_ble_eq_true rfl) rfl ?_
      have lp31_14 : ∀ (nlp31_14 : Nat) (i8 p10 p11 p12 : Int) (f13 : Nat → Int) (m9 : zM), zInv m9 → zFr W_13 m0 m9 → m9 45 5 = g4 → m9 45 7 = g0 → m9 45 1 = p10 → m9 45 6 = p11 → m9 45 8 = p12 → m9 47 = F47 → m9 48 = f13 → 0 ≤ i8 → i8 ≤ 50 → (-2147483648) ≤ p10 → p10 ≤ 2147483647 → 0 ≤ p11 → p11 ≤ 50 → 0 ≤ p12 → p12 ≤ 50 → (zLpk (chf F47 g4) a0 g0 g1 g3 f13 i8 p11 p12 p10) → (zFrm F48 f13 g3) → (p10 ≠ -1 ∨ (g1 + 1 + 2 * i8 ≤ p11 ∧ p12 - g3 ≤ p11 - g1)) → (p11 ≤ g4 ∧ g3 ≤ p12) → (50 - i8).toNat < nlp31_14 → zW E (d) 13 31 [(2, 45), (0, a0), (0, 50), (0, i8), (9, 0)] [] m9 Q := by
        intro nlp31_14
        induction nlp31_14 with
        | zero =>
          intros
          exact absurd (by assumption : _ < 0) (Nat.not_lt_zero _)
        | succ nlp31_14 ihlp31_14 =>
          intro i8 p10 p11 p12 f13 m9 hIm9 hFm9 km9_45_5 km9_45_7 km9_45_1 km9_45_6 km9_45_8 fm9_47 fm9_48 li8 ui8 lp10 up10 lp11 up11 lp12 up12 hv0lp31_14 hv1lp31_14 hv2lp31_14 hv3lp31_14 hmlp31_14
          refine zw_3 zr_13_31 rfl ?_
          refine zw_3 zr_13_32 rfl ?_
          refine zw_41_3 zr_13_33 ?_ ?_
          · intro h16
            refine zw_R zr_13_82 (by decide) zm_13 (v := (9, 0)) rfl ?_
            rw [← hQ]; exact ⟨rfl, hIm9, hFm9, by rw [fm9_48, km9_45_6, km9_45_8, km9_45_1]; first | exact zLpk_x hv0lp31_14 zz (by omega) (by omega) | exact zLpk_e hv0lp31_14 (by omega) | (rw [show a0 = 5 by omega]; exact zz), by rw [fm9_48]; first | exact hv1lp31_14 | exact zz, by omega, by omega, by omega⟩
          · intro h22
            refine zw_7 zr_13_36 rfl ?_
            refine zw_C zr_13_37 (Or.inl rfl) zm_6 rfl rfl ⟨Nat.le_of_ble_eq_true rfl, Nat.le_of_ble_eq_true rfl, Nat.le_of_ble_eq_true rfl, rfl, by decide⟩ (by omega) (th_6 (d := d - 1) (by omega) hIm9  (g0 := p11) (g1 := p10) (g2 := g4)  (F47 := F47) km9_45_6 km9_45_1 km9_45_5 fm9_47  (by omega)) ?_
            rintro _ m23 ⟨r24, rfl, hr24a, hr24b, hIm23, gm23, po0_r24, po1_r24, po2_r24, po3_r24, po4_r24⟩
            have hFm23 : zFr W_13 m0 m23 := hFm9.trans gm23 rfl
            have km23_45_5 : m23 45 5 = g4 := (gm23 45 5 rfl).trans km9_45_5
            have km23_45_7 : m23 45 7 = g0 := (gm23 45 7 rfl).trans km9_45_7
            have km23_45_1 : m23 45 1 = p10 := (gm23 45 1 rfl).trans km9_45_1
            have km23_45_8 : m23 45 8 = p12 := (gm23 45 8 rfl).trans km9_45_8
            have fm23_47 : m23 47 = F47 := (funext fun k => gm23 47 k rfl).trans fm9_47
            have fm23_48 : m23 48 = f13 := (funext fun k => gm23 48 k rfl).trans fm9_48
            obtain ⟨f25, ef25⟩ : ∃ v, m23 45 6 = v := ⟨_, rfl⟩
            have bf25 := ib_45_6 hIm23
            rw [ef25] at bf25
            rw [ef25] at po0_r24
            rw [ef25] at po1_r24
            rw [ef25] at po2_r24
            rw [ef25] at po3_r24
            show zW E (d) 13 40 [(2, 45), (0, a0), (0, 50), (0, i8), (9, 0)] [(0, r24)] m23 Q
            clear po0_r24
            refine zw_10 (L' := [(2, 45), (0, a0), (0, 50), (0, i8), (0, r24)]) zr_13_40 (Nat.le_of_ble_eq_true rfl) rfl ?_
            refine zw_4 zr_13_42 rfl ?_
            refine zw_C zr_13_44 (Or.inr rfl) zm_7 rfl rfl ⟨Nat.le_of_ble_eq_true rfl, Nat.le_of_ble_eq_true rfl, Nat.le_of_ble_eq_true rfl, rfl, by decide⟩ (by omega) (th_7 (d := d - 1) (by omega) hIm23 (a0 := r24)      (by omega) ) ?_
            rintro _ _ ⟨r26, rfl, hr26a, hr26b, rfl, po0_r26, po1_r26⟩
            show zW E (d) 13 47 [(2, 45), (0, a0), (0, 50), (0, i8), (0, r24)] [(0, r26)] m23 Q
            refine zw_3 zr_13_47 rfl ?_
            refine zw_41_1 zr_13_48 ?_ ?_
            · intro h27
              refine zw_7 zr_13_52 rfl ?_
              refine zw_43 zr_13_53 rfl ?_
              refine zw_46i zr_13_54 ef25 rfl rfl rfl ?_
              refine zw_push zr_13_57 ?_
              refine zw_16 zr_13_58 (by omega) ?_
              refine zw_47 (c := 45) zr_13_59 rfl ⟨rfl, by decide, rfl⟩ ?_
              intro m28 em28
              have hIm28 : zInv m28 := by rw [em28]; exact hIm23.bd (r := 45) (k := 6) (lo := 0) (hi := 50) rfl (by omega) (by decide) (by decide) (by decide)
              have hFm28 : zFr W_13 m0 m28 := by rw [em28]; exact hFm23.up rfl
              have km28_45_5 : m28 45 5 = g4 := by rw [em28, zUp_ne (by omega)]; exact km23_45_5
              have km28_45_7 : m28 45 7 = g0 := by rw [em28, zUp_ne (by omega)]; exact km23_45_7
              have km28_45_1 : m28 45 1 = p10 := by rw [em28, zUp_ne (by omega)]; exact km23_45_1
              have km28_45_8 : m28 45 8 = p12 := by rw [em28, zUp_ne (by omega)]; exact km23_45_8
              have km28_45_6 : m28 45 6 = (f25 + 1) := by rw [em28]; exact zUp_eq _ _ _ _
              have fm28_47 : m28 47 = F47 := by rw [em28, zUp_fn (by decide)]; exact fm23_47
              have fm28_48 : m28 48 = f13 := by rw [em28, zUp_fn (by decide)]; exact fm23_48
              clear em28
              refine zw_7 zr_13_62 rfl ?_
              refine zw_3 zr_13_63 rfl ?_
              refine zw_push zr_13_64 ?_
              refine zw_16 zr_13_65 (by omega) ?_
              refine zw_C zr_13_66 (Or.inl rfl) zm_13 rfl rfl ⟨Nat.le_of_ble_eq_true rfl, Nat.le_of_ble_eq_true rfl, Nat.le_of_ble_eq_true rfl, rfl, by decide⟩ (by omega) (ih13 m28 ((a0 + 1)) (g0) ((f25 + 1)) (p10) (p12) (g4) (F47) (f13) (by omega) hIm28 km28_45_7 km28_45_6 km28_45_1 km28_45_8 km28_45_5 fm28_47 fm28_48 (by omega) (by omega) (by omega)) ?_
              rintro _ m29 ⟨rfl, hIm29, gm29, po0_m29, po1_m29, po2_m29, po3_m29, po4_m29⟩
              have hFm29 : zFr W_13 m0 m29 := hFm28.trans gm29 rfl
              have km29_45_5 : m29 45 5 = g4 := (gm29 45 5 rfl).trans km28_45_5
              have fm29_47 : m29 47 = F47 := (funext fun k => gm29 47 k rfl).trans fm28_47
              obtain ⟨f30, fm29_48⟩ : ∃ f, m29 48 = f := ⟨_, rfl⟩
              try rw [fm29_48] at po0_m29
              try rw [fm29_48] at po1_m29
              obtain ⟨f31, ef31⟩ : ∃ v, m29 45 1 = v := ⟨_, rfl⟩
              have bf31 := hIm29.fi (c := 45) (k := 1) rfl
              rw [ef31] at bf31
              rw [ef31] at po0_m29
              rw [ef31] at po2_m29
              obtain ⟨f32, ef32⟩ : ∃ v, m29 45 6 = v := ⟨_, rfl⟩
              have bf32 := ib_45_6 hIm29
              rw [ef32] at bf32
              rw [ef32] at po0_m29
              rw [ef32] at po2_m29
              rw [ef32] at po3_m29
              obtain ⟨f33, ef33⟩ : ∃ v, m29 45 8 = v := ⟨_, rfl⟩
              have bf33 := ib_45_8 hIm29
              rw [ef33] at bf33
              rw [ef33] at po0_m29
              rw [ef33] at po2_m29
              rw [ef33] at po3_m29
              show zW E (d) 13 69 [(2, 45), (0, a0), (0, 50), (0, i8), (0, r24)] [] m29 Q
              refine zw_7 zr_13_69 rfl ?_
              refine zw_4 zr_13_70 rfl ?_
              refine zw_38 zr_13_72 (by omega) ?_
              refine zw_C zr_13_73 (Or.inl rfl) zm_8 rfl rfl ⟨Nat.le_of_ble_eq_true rfl, Nat.le_of_ble_eq_true rfl, Nat.le_of_ble_eq_true rfl, rfl, by decide⟩ (by omega) (P := (fun v m' => zW E (d) 13 76 [(2, 45), (0, a0), (0, 50), (0, i8), (0, r24)] (if v.1 = 9 then [] else v :: []) m' Q)) ?_ (fun _ _ h => h)
              generalize hQ1 : (fun v m' => zW E (d) 13 76 [(2, 45), (0, a0), (0, 50), (0, i8), (0, r24)] (if v.1 = 9 then [] else v :: []) m' Q) = Q1
              show zW E (d - 1) 8 0 [(2, 45), (0, (-r24))] [] m29 Q1
              refine zw_7 zr_8_0 rfl ?_
              refine zw_46i zr_8_1 ef33 rfl rfl rfl ?_
              refine zw_push zr_8_4 ?_
              refine zw_41_3 zr_8_6 ?_ ?_
              · intro h34
                refine zw_R zr_8_29 (by decide) zm_8 (v := (9, 0)) rfl ?_
                rw [← hQ1]
                show zW E (d) 13 76 [(2, 45), (0, a0), (0, 50), (0, i8), (0, r24)] [] m29 Q
                refine zw_15 (c := 1) (L' := [(2, 45), (0, a0), (0, 50), (0, (i8 + 1)), (0, r24)]) zr_13_76 rfl (by decide) (by omega) rfl ?_
                refine zw_42 zr_13_79 ?_
                exact zw_less (L := [(2, 45), (0, a0), (0, 50), (0, (i8 + 1)), (9, 0)]) ⟨Or.inr rfl, Or.inr rfl, Or.inr rfl, Or.inr rfl, Or.inl rfl, trivial⟩ (ihlp31_14 ((i8 + 1)) (f31) (f32) (f33) (f30) m29 hIm29 hFm29  km29_45_5 po4_m29 ef31 ef32 ef33 fm29_47 fm29_48 (by omega) (by omega) (by omega) (by omega) (by omega) (by omega) (by omega) (by omega) (zLpk_s hv0lp31_14 po1_r24 (by omega) po0_m29 po1_m29 (by first | exact Or.inr ⟨rfl, by omega⟩ | exact Or.inl (by omega)) (by omega)) (by first | exact zFrm_p (zFrm_t hv1lp31_14 po1_m29 (by omega)) (by omega) | exact zFrm_t hv1lp31_14 po1_m29 (by omega)) (by omega) (by omega) (by omega))
              · intro h37
                refine zw_7 zr_8_9 rfl ?_
                refine zw_46r (s := 48) zr_8_10 rfl rfl rfl rfl ?_
                refine zw_7 zr_8_13 rfl ?_
                refine zw_46i zr_8_14 ef33 rfl rfl rfl ?_
                refine zw_3 zr_8_17 rfl ?_
                refine zw_49 (c := 48) (len := 50) zr_8_18 rfl rfl (by omega) (by omega) ?_
                intro m38 em38
                have hIm38 : zInv m38 := by rw [em38]; exact iu_48 hIm29 (by omega)
                have hFm38 : zFr W_13 m0 m38 := by rw [em38]; exact hFm29.any rfl
                have km38_45_5 : m38 45 5 = g4 := by rw [em38, zUp_ne (by omega)]; exact km29_45_5
                have km38_45_7 : m38 45 7 = g0 := by rw [em38, zUp_ne (by omega)]; exact po4_m29
                have km38_45_1 : m38 45 1 = f31 := by rw [em38, zUp_ne (by omega)]; exact ef31
                have km38_45_6 : m38 45 6 = f32 := by rw [em38, zUp_ne (by omega)]; exact ef32
                have km38_45_8 : m38 45 8 = f33 := by rw [em38, zUp_ne (by omega)]; exact ef33
                have fm38_47 : m38 47 = F47 := by rw [em38, zUp_fn (by decide)]; exact fm29_47
                have fm38_48 : m38 48 = zPt f30 ((f33).toNat) ((-r24)) := by rw [em38]; exact (zUp_ff (m := m29)).trans (congrArg (fun q => zPt q ((f33).toNat) ((-r24))) fm29_48)
                clear em38
                refine zw_7 zr_8_19 rfl ?_
                refine zw_43 zr_8_20 rfl ?_
                refine zw_46i zr_8_21 km38_45_8 rfl rfl rfl ?_
                refine zw_push zr_8_24 ?_
                refine zw_16 zr_8_25 (by omega) ?_
                refine zw_47 (c := 45) zr_8_26 rfl ⟨rfl, by decide, rfl⟩ ?_
                intro m39 em39
                have hIm39 : zInv m39 := by rw [em39]; exact hIm38.bd (r := 45) (k := 8) (lo := 0) (hi := 50) rfl (by omega) (by decide) (by decide) (by decide)
                have hFm39 : zFr W_13 m0 m39 := by rw [em39]; exact hFm38.up rfl
                have km39_45_5 : m39 45 5 = g4 := by rw [em39, zUp_ne (by omega)]; exact km38_45_5
                have km39_45_7 : m39 45 7 = g0 := by rw [em39, zUp_ne (by omega)]; exact km38_45_7
                have km39_45_1 : m39 45 1 = f31 := by rw [em39, zUp_ne (by omega)]; exact km38_45_1
                have km39_45_6 : m39 45 6 = f32 := by rw [em39, zUp_ne (by omega)]; exact km38_45_6
                have km39_45_8 : m39 45 8 = (f33 + 1) := by rw [em39]; exact zUp_eq _ _ _ _
                have fm39_47 : m39 47 = F47 := by rw [em39, zUp_fn (by decide)]; exact fm38_47
                have fm39_48 : m39 48 = zPt f30 ((f33).toNat) ((-r24)) := by rw [em39, zUp_fn (by decide)]; exact fm38_48
                clear em39
                refine zw_R zr_8_29 (by decide) zm_8 (v := (9, 0)) rfl ?_
                rw [← hQ1]
                show zW E (d) 13 76 [(2, 45), (0, a0), (0, 50), (0, i8), (0, r24)] [] m39 Q
                refine zw_15 (c := 1) (L' := [(2, 45), (0, a0), (0, 50), (0, (i8 + 1)), (0, r24)]) zr_13_76 rfl (by decide) (by omega) rfl ?_
                refine zw_42 zr_13_79 ?_
                exact zw_less (L := [(2, 45), (0, a0), (0, 50), (0, (i8 + 1)), (9, 0)]) ⟨Or.inr rfl, Or.inr rfl, Or.inr rfl, Or.inr rfl, Or.inl rfl, trivial⟩ (ihlp31_14 ((i8 + 1)) (f31) (f32) ((f33 + 1)) (zPt f30 ((f33).toNat) ((-r24))) m39 hIm39 hFm39  km39_45_5 km39_45_7 km39_45_1 km39_45_6 km39_45_8 fm39_47 fm39_48 (by omega) (by omega) (by omega) (by omega) (by omega) (by omega) (by omega) (by omega) (zLpk_s hv0lp31_14 po1_r24 (by omega) po0_m29 po1_m29 (by first | exact Or.inr ⟨rfl, by omega⟩ | exact Or.inl (by omega)) (by omega)) (by first | exact zFrm_p (zFrm_t hv1lp31_14 po1_m29 (by omega)) (by omega) | exact zFrm_t hv1lp31_14 po1_m29 (by omega)) (by omega) (by omega) (by omega))
            · intro h42
              refine zw_R zr_13_51 (by decide) zm_13 (v := (9, 0)) rfl ?_
              rw [← hQ]; exact ⟨rfl, hIm23, hFm23, by rw [fm23_48, ef25, km23_45_8, km23_45_1]; first | exact zLpk_x hv0lp31_14 po1_r24 (by omega) (by omega) | exact zLpk_e hv0lp31_14 (by omega) | (rw [show a0 = 5 by omega]; exact po0_r24), by rw [fm23_48]; first | exact hv1lp31_14 | exact po1_r24, by omega, by omega, by omega⟩
      exact lp31_14 _ (0) (f4) (f5) (f6) (f3) m2 hIm2 hFm2  km2_45_5 po4_m2 ef4 ef5 ef6 fm2_47 fm2_48 (by omega) (by omega) (by omega) (by omega) (by omega) (by omega) (by omega) (by omega) (zLpk_0 po0_m2 (by omega)) (po1_m2) (by omega) (by omega) (Nat.lt_succ_self _)
    · intro h50
      refine zw_push zr_13_22 ?_
      refine zw_42 zr_13_23 ?_
      refine zw_9 (L' := [(2, 45), (0, a0), (0, 1), (9, 0), (9, 0)]) zr_13_28 (Nat.le_of_ble_eq_true rfl) rfl ?_
      refine zw_push zr_13_29 ?_
      refine zw_9 (L' := [(2, 45), (0, a0), (0, 1), (0, 0), (9, 0)]) zr_13_30 (Nat.le_of_ble_eq_true rfl) rfl ?_
      have lp31_57 : ∀ (nlp31_57 : Nat) (i51 p53 p54 p55 : Int) (f56 : Nat → Int) (m52 : zM), zInv m52 → zFr W_13 m0 m52 → m52 45 5 = g4 → m52 45 7 = g0 → m52 45 1 = p53 → m52 45 6 = p54 → m52 45 8 = p55 → m52 47 = F47 → m52 48 = f56 → 0 ≤ i51 → i51 ≤ 50 → (-2147483648) ≤ p53 → p53 ≤ 2147483647 → 0 ≤ p54 → p54 ≤ 50 → 0 ≤ p55 → p55 ≤ 50 → (zLpk (chf F47 g4) a0 g0 g1 g3 f56 i51 p54 p55 p53) → (zFrm F48 f56 g3) → (p53 ≠ -1 ∨ (g1 + 1 + 2 * i51 ≤ p54 ∧ p55 - g3 ≤ p54 - g1)) → (p54 ≤ g4 ∧ g3 ≤ p55) → (50 - i51).toNat < nlp31_57 → zW E (d) 13 31 [(2, 45), (0, a0), (0, 1), (0, i51), (9, 0)] [] m52 Q := by
        intro nlp31_57
        induction nlp31_57 with
        | zero =>
          intros
          exact absurd (by assumption : _ < 0) (Nat.not_lt_zero _)
        | succ nlp31_57 ihlp31_57 =>
          intro i51 p53 p54 p55 f56 m52 hIm52 hFm52 km52_45_5 km52_45_7 km52_45_1 km52_45_6 km52_45_8 fm52_47 fm52_48 li51 ui51 lp53 up53 lp54 up54 lp55 up55 hv0lp31_57 hv1lp31_57 hv2lp31_57 hv3lp31_57 hmlp31_57
          refine zw_3 zr_13_31 rfl ?_
          refine zw_3 zr_13_32 rfl ?_
          refine zw_41_3 zr_13_33 ?_ ?_
          · intro h59
            refine zw_R zr_13_82 (by decide) zm_13 (v := (9, 0)) rfl ?_
            rw [← hQ]; exact ⟨rfl, hIm52, hFm52, by rw [fm52_48, km52_45_6, km52_45_8, km52_45_1]; first | exact zLpk_x hv0lp31_57 zz (by omega) (by omega) | exact zLpk_e hv0lp31_57 (by omega) | (rw [show a0 = 5 by omega]; exact zz), by rw [fm52_48]; first | exact hv1lp31_57 | exact zz, by omega, by omega, by omega⟩
          · intro h65
            refine zw_7 zr_13_36 rfl ?_
            refine zw_C zr_13_37 (Or.inl rfl) zm_6 rfl rfl ⟨Nat.le_of_ble_eq_true rfl, Nat.le_of_ble_eq_true rfl, Nat.le_of_ble_eq_true rfl, rfl, by decide⟩ (by omega) (th_6 (d := d - 1) (by omega) hIm52  (g0 := p54) (g1 := p53) (g2 := g4)  (F47 := F47) km52_45_6 km52_45_1 km52_45_5 fm52_47  (by omega)) ?_
            rintro _ m66 ⟨r67, rfl, hr67a, hr67b, hIm66, gm66, po0_r67, po1_r67, po2_r67, po3_r67, po4_r67⟩
            have hFm66 : zFr W_13 m0 m66 := hFm52.trans gm66 rfl
            have km66_45_5 : m66 45 5 = g4 := (gm66 45 5 rfl).trans km52_45_5
            have km66_45_7 : m66 45 7 = g0 := (gm66 45 7 rfl).trans km52_45_7
            have km66_45_1 : m66 45 1 = p53 := (gm66 45 1 rfl).trans km52_45_1
            have km66_45_8 : m66 45 8 = p55 := (gm66 45 8 rfl).trans km52_45_8
            have fm66_47 : m66 47 = F47 := (funext fun k => gm66 47 k rfl).trans fm52_47
            have fm66_48 : m66 48 = f56 := (funext fun k => gm66 48 k rfl).trans fm52_48
            obtain ⟨f68, ef68⟩ : ∃ v, m66 45 6 = v := ⟨_, rfl⟩
            have bf68 := ib_45_6 hIm66
            rw [ef68] at bf68
            rw [ef68] at po0_r67
            rw [ef68] at po1_r67
            rw [ef68] at po2_r67
            rw [ef68] at po3_r67
            show zW E (d) 13 40 [(2, 45), (0, a0), (0, 1), (0, i51), (9, 0)] [(0, r67)] m66 Q
            clear po0_r67
            refine zw_10 (L' := [(2, 45), (0, a0), (0, 1), (0, i51), (0, r67)]) zr_13_40 (Nat.le_of_ble_eq_true rfl) rfl ?_
            refine zw_4 zr_13_42 rfl ?_
            refine zw_C zr_13_44 (Or.inr rfl) zm_7 rfl rfl ⟨Nat.le_of_ble_eq_true rfl, Nat.le_of_ble_eq_true rfl, Nat.le_of_ble_eq_true rfl, rfl, by decide⟩ (by omega) (th_7 (d := d - 1) (by omega) hIm66 (a0 := r67)      (by omega) ) ?_
            rintro _ _ ⟨r69, rfl, hr69a, hr69b, rfl, po0_r69, po1_r69⟩
            show zW E (d) 13 47 [(2, 45), (0, a0), (0, 1), (0, i51), (0, r67)] [(0, r69)] m66 Q
            refine zw_3 zr_13_47 rfl ?_
            refine zw_41_1 zr_13_48 ?_ ?_
            · intro h70
              refine zw_7 zr_13_52 rfl ?_
              refine zw_43 zr_13_53 rfl ?_
              refine zw_46i zr_13_54 ef68 rfl rfl rfl ?_
              refine zw_push zr_13_57 ?_
              refine zw_16 zr_13_58 (by omega) ?_
              refine zw_47 (c := 45) zr_13_59 rfl ⟨rfl, by decide, rfl⟩ ?_
              intro m71 em71
              have hIm71 : zInv m71 := by rw [em71]; exact hIm66.bd (r := 45) (k := 6) (lo := 0) (hi := 50) rfl (by omega) (by decide) (by decide) (by decide)
              have hFm71 : zFr W_13 m0 m71 := by rw [em71]; exact hFm66.up rfl
              have km71_45_5 : m71 45 5 = g4 := by rw [em71, zUp_ne (by omega)]; exact km66_45_5
              have km71_45_7 : m71 45 7 = g0 := by rw [em71, zUp_ne (by omega)]; exact km66_45_7
              have km71_45_1 : m71 45 1 = p53 := by rw [em71, zUp_ne (by omega)]; exact km66_45_1
              have km71_45_8 : m71 45 8 = p55 := by rw [em71, zUp_ne (by omega)]; exact km66_45_8
              have km71_45_6 : m71 45 6 = (f68 + 1) := by rw [em71]; exact zUp_eq _ _ _ _
              have fm71_47 : m71 47 = F47 := by rw [em71, zUp_fn (by decide)]; exact fm66_47
              have fm71_48 : m71 48 = f56 := by rw [em71, zUp_fn (by decide)]; exact fm66_48
              clear em71
              refine zw_7 zr_13_62 rfl ?_
              refine zw_3 zr_13_63 rfl ?_
              refine zw_push zr_13_64 ?_
              refine zw_16 zr_13_65 (by omega) ?_
              refine zw_C zr_13_66 (Or.inl rfl) zm_13 rfl rfl ⟨Nat.le_of_ble_eq_true rfl, Nat.le_of_ble_eq_true rfl, Nat.le_of_ble_eq_true rfl, rfl, by decide⟩ (by omega) (ih13 m71 ((a0 + 1)) (g0) ((f68 + 1)) (p53) (p55) (g4) (F47) (f56) (by omega) hIm71 km71_45_7 km71_45_6 km71_45_1 km71_45_8 km71_45_5 fm71_47 fm71_48 (by omega) (by omega) (by omega)) ?_
              rintro _ m72 ⟨rfl, hIm72, gm72, po0_m72, po1_m72, po2_m72, po3_m72, po4_m72⟩
              have hFm72 : zFr W_13 m0 m72 := hFm71.trans gm72 rfl
              have km72_45_5 : m72 45 5 = g4 := (gm72 45 5 rfl).trans km71_45_5
              have fm72_47 : m72 47 = F47 := (funext fun k => gm72 47 k rfl).trans fm71_47
              obtain ⟨f73, fm72_48⟩ : ∃ f, m72 48 = f := ⟨_, rfl⟩
              try rw [fm72_48] at po0_m72
              try rw [fm72_48] at po1_m72
              obtain ⟨f74, ef74⟩ : ∃ v, m72 45 1 = v := ⟨_, rfl⟩
              have bf74 := hIm72.fi (c := 45) (k := 1) rfl
              rw [ef74] at bf74
              rw [ef74] at po0_m72
              rw [ef74] at po2_m72
              obtain ⟨f75, ef75⟩ : ∃ v, m72 45 6 = v := ⟨_, rfl⟩
              have bf75 := ib_45_6 hIm72
              rw [ef75] at bf75
              rw [ef75] at po0_m72
              rw [ef75] at po2_m72
              rw [ef75] at po3_m72
              obtain ⟨f76, ef76⟩ : ∃ v, m72 45 8 = v := ⟨_, rfl⟩
              have bf76 := ib_45_8 hIm72
              rw [ef76] at bf76
              rw [ef76] at po0_m72
              rw [ef76] at po2_m72
              rw [ef76] at po3_m72
              show zW E (d) 13 69 [(2, 45), (0, a0), (0, 1), (0, i51), (0, r67)] [] m72 Q
              refine zw_7 zr_13_69 rfl ?_
              refine zw_4 zr_13_70 rfl ?_
              refine zw_38 zr_13_72 (by omega) ?_
              refine zw_C zr_13_73 (Or.inl rfl) zm_8 rfl rfl ⟨Nat.le_of_ble_eq_true rfl, Nat.le_of_ble_eq_true rfl, Nat.le_of_ble_eq_true rfl, rfl, by decide⟩ (by omega) (P := (fun v m' => zW E (d) 13 76 [(2, 45), (0, a0), (0, 1), (0, i51), (0, r67)] (if v.1 = 9 then [] else v :: []) m' Q)) ?_ (fun _ _ h => h)
              generalize hQ1 : (fun v m' => zW E (d) 13 76 [(2, 45), (0, a0), (0, 1), (0, i51), (0, r67)] (if v.1 = 9 then [] else v :: []) m' Q) = Q1
              show zW E (d - 1) 8 0 [(2, 45), (0, (-r67))] [] m72 Q1
              refine zw_7 zr_8_0 rfl ?_
              refine zw_46i zr_8_1 ef76 rfl rfl rfl ?_
              refine zw_push zr_8_4 ?_
              refine zw_41_3 zr_8_6 ?_ ?_
              · intro h77
                refine zw_R zr_8_29 (by decide) zm_8 (v := (9, 0)) rfl ?_
                rw [← hQ1]
                show zW E (d) 13 76 [(2, 45), (0, a0), (0, 1), (0, i51), (0, r67)] [] m72 Q
                refine zw_15 (c := 1) (L' := [(2, 45), (0, a0), (0, 1), (0, (i51 + 1)), (0, r67)]) zr_13_76 rfl (by decide) (by omega) rfl ?_
                refine zw_42 zr_13_79 ?_
                exact zw_less (L := [(2, 45), (0, a0), (0, 1), (0, (i51 + 1)), (9, 0)]) ⟨Or.inr rfl, Or.inr rfl, Or.inr rfl, Or.inr rfl, Or.inl rfl, trivial⟩ (ihlp31_57 ((i51 + 1)) (f74) (f75) (f76) (f73) m72 hIm72 hFm72  km72_45_5 po4_m72 ef74 ef75 ef76 fm72_47 fm72_48 (by omega) (by omega) (by omega) (by omega) (by omega) (by omega) (by omega) (by omega) (zLpk_s hv0lp31_57 po1_r67 (by omega) po0_m72 po1_m72 (by first | exact Or.inr ⟨rfl, by omega⟩ | exact Or.inl (by omega)) (by omega)) (by first | exact zFrm_p (zFrm_t hv1lp31_57 po1_m72 (by omega)) (by omega) | exact zFrm_t hv1lp31_57 po1_m72 (by omega)) (by omega) (by omega) (by omega))
              · intro h80
                refine zw_7 zr_8_9 rfl ?_
                refine zw_46r (s := 48) zr_8_10 rfl rfl rfl rfl ?_
                refine zw_7 zr_8_13 rfl ?_
                refine zw_46i zr_8_14 ef76 rfl rfl rfl ?_
                refine zw_3 zr_8_17 rfl ?_
                refine zw_49 (c := 48) (len := 50) zr_8_18 rfl rfl (by omega) (by omega) ?_
                intro m81 em81
                have hIm81 : zInv m81 := by rw [em81]; exact iu_48 hIm72 (by omega)
                have hFm81 : zFr W_13 m0 m81 := by rw [em81]; exact hFm72.any rfl
                have km81_45_5 : m81 45 5 = g4 := by rw [em81, zUp_ne (by omega)]; exact km72_45_5
                have km81_45_7 : m81 45 7 = g0 := by rw [em81, zUp_ne (by omega)]; exact po4_m72
                have km81_45_1 : m81 45 1 = f74 := by rw [em81, zUp_ne (by omega)]; exact ef74
                have km81_45_6 : m81 45 6 = f75 := by rw [em81, zUp_ne (by omega)]; exact ef75
                have km81_45_8 : m81 45 8 = f76 := by rw [em81, zUp_ne (by omega)]; exact ef76
                have fm81_47 : m81 47 = F47 := by rw [em81, zUp_fn (by decide)]; exact fm72_47
                have fm81_48 : m81 48 = zPt f73 ((f76).toNat) ((-r67)) := by rw [em81]; exact (zUp_ff (m := m72)).trans (congrArg (fun q => zPt q ((f76).toNat) ((-r67))) fm72_48)
                clear em81
                refine zw_7 zr_8_19 rfl ?_
                refine zw_43 zr_8_20 rfl ?_
                refine zw_46i zr_8_21 km81_45_8 rfl rfl rfl ?_
                refine zw_push zr_8_24 ?_
                refine zw_16 zr_8_25 (by omega) ?_
                refine zw_47 (c := 45) zr_8_26 rfl ⟨rfl, by decide, rfl⟩ ?_
                intro m82 em82
                have hIm82 : zInv m82 := by rw [em82]; exact hIm81.bd (r := 45) (k := 8) (lo := 0) (hi := 50) rfl (by omega) (by decide) (by decide) (by decide)
                have hFm82 : zFr W_13 m0 m82 := by rw [em82]; exact hFm81.up rfl
                have km82_45_5 : m82 45 5 = g4 := by rw [em82, zUp_ne (by omega)]; exact km81_45_5
                have km82_45_7 : m82 45 7 = g0 := by rw [em82, zUp_ne (by omega)]; exact km81_45_7
                have km82_45_1 : m82 45 1 = f74 := by rw [em82, zUp_ne (by omega)]; exact km81_45_1
                have km82_45_6 : m82 45 6 = f75 := by rw [em82, zUp_ne (by omega)]; exact km81_45_6
                have km82_45_8 : m82 45 8 = (f76 + 1) := by rw [em82]; exact zUp_eq _ _ _ _
                have fm82_47 : m82 47 = F47 := by rw [em82, zUp_fn (by decide)]; exact fm81_47
                have fm82_48 : m82 48 = zPt f73 ((f76).toNat) ((-r67)) := by rw [em82, zUp_fn (by decide)]; exact fm81_48
                clear em82
                refine zw_R zr_8_29 (by decide) zm_8 (v := (9, 0)) rfl ?_
                rw [← hQ1]
                show zW E (d) 13 76 [(2, 45), (0, a0), (0, 1), (0, i51), (0, r67)] [] m82 Q
                refine zw_15 (c := 1) (L' := [(2, 45), (0, a0), (0, 1), (0, (i51 + 1)), (0, r67)]) zr_13_76 rfl (by decide) (by omega) rfl ?_
                refine zw_42 zr_13_79 ?_
                exact zw_less (L := [(2, 45), (0, a0), (0, 1), (0, (i51 + 1)), (9, 0)]) ⟨Or.inr rfl, Or.inr rfl, Or.inr rfl, Or.inr rfl, Or.inl rfl, trivial⟩ (ihlp31_57 ((i51 + 1)) (f74) (f75) ((f76 + 1)) (zPt f73 ((f76).toNat) ((-r67))) m82 hIm82 hFm82  km82_45_5 km82_45_7 km82_45_1 km82_45_6 km82_45_8 fm82_47 fm82_48 (by omega) (by omega) (by omega) (by omega) (by omega) (by omega) (by omega) (by omega) (zLpk_s hv0lp31_57 po1_r67 (by omega) po0_m72 po1_m72 (by first | exact Or.inr ⟨rfl, by omega⟩ | exact Or.inl (by omega)) (by omega)) (by first | exact zFrm_p (zFrm_t hv1lp31_57 po1_m72 (by omega)) (by omega) | exact zFrm_t hv1lp31_57 po1_m72 (by omega)) (by omega) (by omega) (by omega))
            · intro h85
              refine zw_R zr_13_51 (by decide) zm_13 (v := (9, 0)) rfl ?_
              rw [← hQ]; exact ⟨rfl, hIm66, hFm66, by rw [fm66_48, ef68, km66_45_8, km66_45_1]; first | exact zLpk_x hv0lp31_57 po1_r67 (by omega) (by omega) | exact zLpk_e hv0lp31_57 (by omega) | (rw [show a0 = 5 by omega]; exact po0_r67), by rw [fm66_48]; first | exact hv1lp31_57 | exact po1_r67, by omega, by omega, by omega⟩
      exact lp31_57 _ (0) (f4) (f5) (f6) (f3) m2 hIm2 hFm2  km2_45_5 po4_m2 ef4 ef5 ef6 fm2_47 fm2_48 (by omega) (by omega) (by omega) (by omega) (by omega) (by omega) (by omega) (by omega) (zLpk_0 po0_m2 (by omega)) (po1_m2) (by omega) (by omega) (Nat.lt_succ_self _)
  · intro h93
    refine zw_7 zr_13_5 rfl ?_
    refine zw_C zr_13_6 (Or.inl rfl) zm_14 rfl rfl ⟨Nat.le_of_ble_eq_true rfl, Nat.le_of_ble_eq_true rfl, Nat.le_of_ble_eq_true rfl, rfl, by decide⟩ (by omega) (ih14 m0 (g0) (g1) (g2) (g3) (g4) (F47) (F48) (by omega) hI0 hg0 hg1 hg2 hg3 hg4 hG47 hG48  (by omega) (by omega)) ?_
    rintro _ m94 ⟨rfl, hIm94, gm94, po0_m94, po1_m94, po2_m94, po3_m94, po4_m94⟩
    have hFm94 : zFr W_13 m0 m94 := hF0.trans gm94 rfl
    have km94_45_5 : m94 45 5 = g4 := (gm94 45 5 rfl).trans hg4
    have fm94_47 : m94 47 = F47 := (funext fun k => gm94 47 k rfl).trans hG47
    obtain ⟨f95, fm94_48⟩ : ∃ f, m94 48 = f := ⟨_, rfl⟩
    try rw [fm94_48] at po0_m94
    try rw [fm94_48] at po1_m94
    obtain ⟨f96, ef96⟩ : ∃ v, m94 45 1 = v := ⟨_, rfl⟩
    have bf96 := hIm94.fi (c := 45) (k := 1) rfl
    rw [ef96] at bf96
    rw [ef96] at po0_m94
    rw [ef96] at po2_m94
    obtain ⟨f97, ef97⟩ : ∃ v, m94 45 6 = v := ⟨_, rfl⟩
    have bf97 := ib_45_6 hIm94
    rw [ef97] at bf97
    rw [ef97] at po0_m94
    rw [ef97] at po2_m94
    rw [ef97] at po3_m94
    obtain ⟨f98, ef98⟩ : ∃ v, m94 45 8 = v := ⟨_, rfl⟩
    have bf98 := ib_45_8 hIm94
    rw [ef98] at bf98
    rw [ef98] at po0_m94
    rw [ef98] at po2_m94
    rw [ef98] at po3_m94
    show zW E (d) 13 9 [(2, 45), (0, a0), (9, 0), (9, 0), (9, 0)] [] m94 Q
    refine zw_R zr_13_9 (by decide) zm_13 (v := (9, 0)) rfl ?_
    rw [← hQ]; exact ⟨rfl, hIm94, hFm94, by rw [fm94_48, ef97, ef98, ef96]; first | exact zLpk_x zz po1_m94 (by omega) (by omega) | exact zLpk_e zz (by omega) | (rw [show a0 = 5 by omega]; exact po0_m94), by rw [fm94_48]; first | exact zz | exact po1_m94, by omega, by omega, by omega⟩
set_option maxHeartbeats 8000000 in
theorem tr_14 {E : zE} {d : Nat} (ih13 : rs_13 E (d - 1)) (ih14 : rs_14 E (d - 1)) (ih12 : rs_12 E (d - 1)) : rs_14 E d := by
  intro m0 g0 g1 g2 g3 g4 F47 F48 hd hI0 hg0 hg1 hg2 hg3 hg4 hG47 hG48 hp0 hp1
  have hF0 : zFr W_14 m0 m0 := zFr.rfl
  have bg0 := ib_45_7 hI0
  rw [hg0] at bg0
  have bg1 := ib_45_6 hI0
  rw [hg1] at bg1
  have bg2 := hI0.fi (c := 45) (k := 1) rfl
  rw [hg2] at bg2
  have bg3 := ib_45_8 hI0
  rw [hg3] at bg3
  have bg4 := ib_45_5 hI0
  rw [hg4] at bg4
  generalize hQ : (fun (v : zV) (m' : zM) => v = (9, 0) ∧ zInv m' ∧ zFr W_14 m0 m' ∧ (zLv (chf F47 g4) 5 g0 g1 g3 (m' 48) (m' 45 6) (m' 45 8) (m' 45 1)) ∧ (zFrm F48 (m' 48) g3) ∧ (m' 45 1 ≠ -1 ∨ (g1 < m' 45 6 ∧ m' 45 8 - g3 ≤ m' 45 6 - g1)) ∧ (m' 45 6 ≤ g4 ∧ g3 ≤ m' 45 8) ∧ (m' 45 7 = g0)) = Q
  show zW E d 14 0 [(2, 45), (9, 0), (9, 0), (9, 0)] [] m0 Q
  refine zw_7 zr_14_0 rfl ?_
  refine zw_46i zr_14_1 hg1 rfl rfl rfl ?_
  refine zw_9 (L' := [(2, 45), (0, g1), (9, 0), (9, 0)]) zr_14_4 (Nat.le_of_ble_eq_true rfl) rfl ?_
  refine zw_7 zr_14_5 rfl ?_
  refine zw_C zr_14_6 (Or.inl rfl) zm_6 rfl rfl ⟨Nat.le_of_ble_eq_true rfl, Nat.le_of_ble_eq_true rfl, Nat.le_of_ble_eq_true rfl, rfl, by decide⟩ (by omega) (th_6 (d := d - 1) (by omega) hI0  (g0 := g1) (g1 := g2) (g2 := g4)  (F47 := F47) hg1 hg2 hg4 hG47  (by omega)) ?_
  rintro _ m1 ⟨r2, rfl, hr2a, hr2b, hIm1, gm1, po0_r2, po1_r2, po2_r2, po3_r2, po4_r2⟩
  have hFm1 : zFr W_14 m0 m1 := hF0.trans gm1 rfl
  have km1_45_7 : m1 45 7 = g0 := (gm1 45 7 rfl).trans hg0
  have km1_45_1 : m1 45 1 = g2 := (gm1 45 1 rfl).trans hg2
  have km1_45_8 : m1 45 8 = g3 := (gm1 45 8 rfl).trans hg3
  have km1_45_5 : m1 45 5 = g4 := (gm1 45 5 rfl).trans hg4
  have fm1_47 : m1 47 = F47 := (funext fun k => gm1 47 k rfl).trans hG47
  have fm1_48 : m1 48 = F48 := (funext fun k => gm1 48 k rfl).trans hG48
  obtain ⟨f3, ef3⟩ : ∃ v, m1 45 6 = v := ⟨_, rfl⟩
  have bf3 := ib_45_6 hIm1
  rw [ef3] at bf3
  rw [ef3] at po0_r2
  rw [ef3] at po1_r2
  rw [ef3] at po2_r2
  rw [ef3] at po3_r2
  show zW E (d) 14 9 [(2, 45), (0, g1), (9, 0), (9, 0)] [(0, r2)] m1 Q
  clear po0_r2 po4_r2
  refine zw_9 (L' := [(2, 45), (0, g1), (0, r2), (9, 0)]) zr_14_9 (Nat.le_of_ble_eq_true rfl) rfl ?_
  refine zw_push zr_14_10 ?_
  refine zw_9 (L' := [(2, 45), (0, g1), (0, r2), (0, 0)]) zr_14_11 (Nat.le_of_ble_eq_true rfl) rfl ?_
  have lp12_11 : ∀ (nlp12_11 : Nat) (i4 i5 p7 p8 p9 : Int) (f10 : Nat → Int) (m6 : zM), zInv m6 → zFr W_14 m0 m6 → m6 45 7 = g0 → m6 45 5 = g4 → m6 45 6 = p7 → m6 45 1 = p8 → m6 45 8 = p9 → m6 47 = F47 → m6 48 = f10 → (-1) ≤ i4 → i4 ≤ 127 → 0 ≤ i5 → i5 ≤ 50 → 0 ≤ p7 → p7 ≤ 50 → (-2147483648) ≤ p8 → p8 ≤ 2147483647 → 0 ≤ p9 → p9 ≤ 50 → (i4 = -1 ∨ p7 ≤ 49) → (zAh (chf F47 g4) g1 p7 i4) → (g1 ≤ p7 ∧ p7 ≤ g4 ∧ i5 ≤ p7 - g1 ∧ (i4 = -1 ∨ p7 < g4) ∧ p8 = g2 ∧ p9 = g3) → (zFrm F48 f10 g3) → (50 - i5).toNat < nlp12_11 → zW E (d) 14 12 [(2, 45), (0, g1), (0, i4), (0, i5)] [] m6 Q := by
    intro nlp12_11
    induction nlp12_11 with
    | zero =>
      intros
      exact absurd (by assumption : _ < 0) (Nat.not_lt_zero _)
    | succ nlp12_11 ihlp12_11 =>
      intro i4 i5 p7 p8 p9 f10 m6 hIm6 hFm6 km6_45_7 km6_45_5 km6_45_6 km6_45_1 km6_45_8 fm6_47 fm6_48 li4 ui4 li5 ui5 lp7 up7 lp8 up8 lp9 up9 hv0lp12_11 hv1lp12_11 hv2lp12_11 hv3lp12_11 hmlp12_11
      clear hv0lp12_11
      clear po3_r2
      refine zw_3 zr_14_12 rfl ?_
      refine zw_push zr_14_13 ?_
      refine zw_41_3 zr_14_15 ?_ ?_
      · intro h14
        first | have hz : i4 = -1 := by omega | skip
        refine zw_7 zr_14_51 rfl ?_
        refine zw_46i zr_14_52 km6_45_6 rfl rfl rfl ?_
        refine zw_9 (L' := [(2, 45), (0, g1), (0, i4), (0, p7)]) zr_14_55 (Nat.le_of_ble_eq_true rfl) rfl ?_
        refine zw_3 zr_14_56 rfl ?_
        refine zw_push zr_14_57 ?_
        refine zw_41_0 zr_14_59 ?_ ?_
        · intro h16
          refine zw_3 zr_14_75 rfl ?_
          refine zw_C zr_14_76 (Or.inr rfl) zm_10 rfl rfl ⟨Nat.le_of_ble_eq_true rfl, Nat.le_of_ble_eq_true rfl, Nat.le_of_ble_eq_true rfl, rfl, by decide⟩ (by omega) (th_10 (d := d - 1) (by omega) hIm6 (a0 := i4)      (by omega) ) ?_
          rintro _ _ ⟨r17, rfl, hr17a, hr17b, rfl, po0_r17, po1_r17⟩
          show zW E (d) 14 79 [(2, 45), (0, g1), (0, i4), (0, p7)] [(0, r17)] m6 Q
          refine zw_push zr_14_79 ?_
          refine zw_41_1 zr_14_80 ?_ ?_
          · intro h18
            refine zw_3 zr_14_102 rfl ?_
            refine zw_push zr_14_103 ?_
            refine zw_41_4 zr_14_105 ?_ ?_
            · intro h19
              refine zw_7 zr_14_115 rfl ?_
              refine zw_push zr_14_116 ?_
              refine zw_C zr_14_117 (Or.inl rfl) zm_5 rfl rfl ⟨Nat.le_of_ble_eq_true rfl, Nat.le_of_ble_eq_true rfl, Nat.le_of_ble_eq_true rfl, rfl, by decide⟩ (by omega) (P := (fun v m' => zW E (d) 14 120 [(2, 45), (0, g1), (0, i4), (0, p7)] (if v.1 = 9 then [] else v :: []) m' Q)) ?_ (fun _ _ h => h)
              generalize hQ1 : (fun v m' => zW E (d) 14 120 [(2, 45), (0, g1), (0, i4), (0, p7)] (if v.1 = 9 then [] else v :: []) m' Q) = Q1
              show zW E (d - 1) 5 0 [(2, 45), (0, 1)] [] m6 Q1
              refine zw_7 zr_5_0 rfl ?_
              refine zw_46i zr_5_1 km6_45_1 rfl rfl rfl ?_
              refine zw_push zr_5_4 ?_
              refine zw_41_4 zr_5_5 ?_ ?_
              · intro h20
                refine zw_R zr_5_21 (by decide) zm_5 (v := (9, 0)) rfl ?_
                rw [← hQ1]
                show zW E (d) 14 120 [(2, 45), (0, g1), (0, i4), (0, p7)] [] m6 Q
                have hCr : zCr (chf F47 g4) g0 p7 g3 f10 p7 p9 p8 := by first | exact zCr_c po0_r17 (by omega) | exact zCr_c zz (by omega) | exact zCr_l hv1lp12_11 (by omega) rfl (by omega) | exact zCr_f hv1lp12_11 (by omega) (by omega) (by omega) (by omega) | (exfalso; omega)
                have hFr : zFrm F48 f10 g3 := by first | exact hv3lp12_11 | exact zFrm_p hv3lp12_11 (by omega) | exact zFrm_t hv3lp12_11 po1_r17 (by omega) | exact zFrm_t hv3lp12_11 zz (by omega)
                refine zw_7 zr_14_120 rfl ?_
                refine zw_3 zr_14_121 rfl ?_
                refine zw_3 zr_14_122 rfl ?_
                refine zw_C zr_14_123 (Or.inl rfl) zm_11 rfl rfl ⟨Nat.le_of_ble_eq_true rfl, Nat.le_of_ble_eq_true rfl, Nat.le_of_ble_eq_true rfl, rfl, by decide⟩ (by omega) (th_11 (d := d - 1) (by omega) hIm6 (a0 := g1) (a1 := p7) (g0 := p9)  (F47 := F47) (F48 := f10) km6_45_8 fm6_47 fm6_48 (by omega) (by omega) (by omega)) ?_
                rintro _ m23 ⟨rfl, hIm23, gm23, po0_m23, po1_m23, po2_m23⟩
                have hFm23 : zFr W_14 m0 m23 := hFm6.trans gm23 rfl
                have km23_45_7 : m23 45 7 = g0 := (gm23 45 7 rfl).trans km6_45_7
                have km23_45_5 : m23 45 5 = g4 := (gm23 45 5 rfl).trans km6_45_5
                have km23_45_6 : m23 45 6 = p7 := (gm23 45 6 rfl).trans km6_45_6
                have km23_45_1 : m23 45 1 = p8 := (gm23 45 1 rfl).trans km6_45_1
                have fm23_47 : m23 47 = F47 := (funext fun k => gm23 47 k rfl).trans fm6_47
                obtain ⟨f24, fm23_48⟩ : ∃ f, m23 48 = f := ⟨_, rfl⟩
                try rw [fm23_48] at po0_m23
                try rw [fm23_48] at po1_m23
                obtain ⟨f25, ef25⟩ : ∃ v, m23 45 8 = v := ⟨_, rfl⟩
                have bf25 := ib_45_8 hIm23
                rw [ef25] at bf25
                rw [ef25] at po0_m23
                rw [ef25] at po2_m23
                show zW E (d) 14 126 [(2, 45), (0, g1), (0, i4), (0, p7)] [] m23 Q
                have hAq := po0_m23
                have hFa := po1_m23
                refine zw_R zr_14_126 (by decide) zm_14 (v := (9, 0)) rfl ?_
                rw [← hQ]; exact ⟨rfl, hIm23, hFm23, by rw [fm23_48, km23_45_6, ef25, km23_45_1]; exact zUn2 hv1lp12_11 hCr hAq hFa (by omega), by rw [fm23_48]; exact zFrm_t hFr hFa (by omega), by omega, by omega, by omega⟩
              · intro h31
                refine zw_7 zr_5_8 rfl ?_
                refine zw_7 zr_5_9 rfl ?_
                refine zw_46i zr_5_10 km6_45_6 rfl rfl rfl ?_
                refine zw_push zr_5_13 ?_
                refine zw_18 zr_5_15 (by omega) ?_
                refine zw_3 zr_5_16 rfl ?_
                refine zw_16 zr_5_17 (by omega) ?_
                refine zw_47 (c := 45) zr_5_18 rfl ⟨rfl, by decide, rfl⟩ ?_
                intro m32 em32
                have hIm32 : zInv m32 := by rw [em32]; exact hIm6.any (by omega) rfl (by decide) (by decide)
                have hFm32 : zFr W_14 m0 m32 := by rw [em32]; exact hFm6.up rfl
                have km32_45_7 : m32 45 7 = g0 := by rw [em32, zUp_ne (by omega)]; exact km6_45_7
                have km32_45_5 : m32 45 5 = g4 := by rw [em32, zUp_ne (by omega)]; exact km6_45_5
                have km32_45_6 : m32 45 6 = p7 := by rw [em32, zUp_ne (by omega)]; exact km6_45_6
                have km32_45_8 : m32 45 8 = p9 := by rw [em32, zUp_ne (by omega)]; exact km6_45_8
                have km32_45_1 : m32 45 1 = ((p7 * 10) + 1) := by rw [em32]; exact zUp_eq _ _ _ _
                have fm32_47 : m32 47 = F47 := by rw [em32, zUp_fn (by decide)]; exact fm6_47
                have fm32_48 : m32 48 = f10 := by rw [em32, zUp_fn (by decide)]; exact fm6_48
                clear em32
                refine zw_R zr_5_21 (by decide) zm_5 (v := (9, 0)) rfl ?_
                rw [← hQ1]
                show zW E (d) 14 120 [(2, 45), (0, g1), (0, i4), (0, p7)] [] m32 Q
                have hCr : zCr (chf F47 g4) g0 p7 g3 f10 p7 p9 ((p7 * 10) + 1) := by first | exact zCr_c po0_r17 (by omega) | exact zCr_c zz (by omega) | exact zCr_l hv1lp12_11 (by omega) rfl (by omega) | exact zCr_f hv1lp12_11 (by omega) (by omega) (by omega) (by omega) | (exfalso; omega)
                have hFr : zFrm F48 f10 g3 := by first | exact hv3lp12_11 | exact zFrm_p hv3lp12_11 (by omega) | exact zFrm_t hv3lp12_11 po1_r17 (by omega) | exact zFrm_t hv3lp12_11 zz (by omega)
                refine zw_7 zr_14_120 rfl ?_
                refine zw_3 zr_14_121 rfl ?_
                refine zw_3 zr_14_122 rfl ?_
                refine zw_C zr_14_123 (Or.inl rfl) zm_11 rfl rfl ⟨Nat.le_of_ble_eq_true rfl, Nat.le_of_ble_eq_true rfl, Nat.le_of_ble_eq_true rfl, rfl, by decide⟩ (by omega) (th_11 (d := d - 1) (by omega) hIm32 (a0 := g1) (a1 := p7) (g0 := p9)  (F47 := F47) (F48 := f10) km32_45_8 fm32_47 fm32_48 (by omega) (by omega) (by omega)) ?_
                rintro _ m35 ⟨rfl, hIm35, gm35, po0_m35, po1_m35, po2_m35⟩
                have hFm35 : zFr W_14 m0 m35 := hFm32.trans gm35 rfl
                have km35_45_7 : m35 45 7 = g0 := (gm35 45 7 rfl).trans km32_45_7
                have km35_45_5 : m35 45 5 = g4 := (gm35 45 5 rfl).trans km32_45_5
                have km35_45_6 : m35 45 6 = p7 := (gm35 45 6 rfl).trans km32_45_6
                have km35_45_1 : m35 45 1 = ((p7 * 10) + 1) := (gm35 45 1 rfl).trans km32_45_1
                have fm35_47 : m35 47 = F47 := (funext fun k => gm35 47 k rfl).trans fm32_47
                obtain ⟨f36, fm35_48⟩ : ∃ f, m35 48 = f := ⟨_, rfl⟩
                try rw [fm35_48] at po0_m35
                try rw [fm35_48] at po1_m35
                obtain ⟨f37, ef37⟩ : ∃ v, m35 45 8 = v := ⟨_, rfl⟩
                have bf37 := ib_45_8 hIm35
                rw [ef37] at bf37
                rw [ef37] at po0_m35
                rw [ef37] at po2_m35
                show zW E (d) 14 126 [(2, 45), (0, g1), (0, i4), (0, p7)] [] m35 Q
                have hAq := po0_m35
                have hFa := po1_m35
                refine zw_R zr_14_126 (by decide) zm_14 (v := (9, 0)) rfl ?_
                rw [← hQ]; exact ⟨rfl, hIm35, hFm35, by rw [fm35_48, km35_45_6, ef37, km35_45_1]; exact zUn2 hv1lp12_11 hCr hAq hFa (by omega), by rw [fm35_48]; exact zFrm_t hFr hFa (by omega), by omega, by omega, by omega⟩
            · intro h43
              have hM : p7 < g4 := by omega
              refine zw_7 zr_14_108 rfl ?_
              refine zw_C zr_14_109 (Or.inl rfl) zm_12 rfl rfl ⟨Nat.le_of_ble_eq_true rfl, Nat.le_of_ble_eq_true rfl, Nat.le_of_ble_eq_true rfl, rfl, by decide⟩ (by omega) (ih12 m6 (g0) (p7) (p8) (p9) (g4) (F47) (f10) (by omega) hIm6 km6_45_7 km6_45_6 km6_45_1 km6_45_8 km6_45_5 fm6_47 fm6_48  (by omega) (by omega) (by omega) (zAh_d hv1lp12_11 (by omega))) ?_
              rintro _ m46 ⟨rfl, hIm46, gm46, po0_m46, po1_m46, po2_m46, po3_m46, po4_m46⟩
              have hFm46 : zFr W_14 m0 m46 := hFm6.trans gm46 rfl
              have km46_45_5 : m46 45 5 = g4 := (gm46 45 5 rfl).trans km6_45_5
              have fm46_47 : m46 47 = F47 := (funext fun k => gm46 47 k rfl).trans fm6_47
              obtain ⟨f47, fm46_48⟩ : ∃ f, m46 48 = f := ⟨_, rfl⟩
              try rw [fm46_48] at po0_m46
              try rw [fm46_48] at po1_m46
              obtain ⟨f48, ef48⟩ : ∃ v, m46 45 1 = v := ⟨_, rfl⟩
              have bf48 := hIm46.fi (c := 45) (k := 1) rfl
              rw [ef48] at bf48
              rw [ef48] at po0_m46
              rw [ef48] at po2_m46
              obtain ⟨f49, ef49⟩ : ∃ v, m46 45 6 = v := ⟨_, rfl⟩
              have bf49 := ib_45_6 hIm46
              rw [ef49] at bf49
              rw [ef49] at po0_m46
              rw [ef49] at po2_m46
              rw [ef49] at po3_m46
              obtain ⟨f50, ef50⟩ : ∃ v, m46 45 8 = v := ⟨_, rfl⟩
              have bf50 := ib_45_8 hIm46
              rw [ef50] at bf50
              rw [ef50] at po0_m46
              rw [ef50] at po2_m46
              rw [ef50] at po3_m46
              show zW E (d) 14 112 [(2, 45), (0, g1), (0, i4), (0, p7)] [] m46 Q
              refine zw_42 zr_14_112 ?_
              have hCr : zCr (chf F47 g4) g0 p7 g3 f47 f49 f50 f48 := by first | exact zCr_c po0_r17 (by omega) | exact zCr_c po0_m46 (by omega) | exact zCr_l hv1lp12_11 (by omega) rfl (by omega) | exact zCr_f hv1lp12_11 (by omega) (by omega) (by omega) (by omega) | (exfalso; omega)
              have hFr : zFrm F48 f47 g3 := by first | exact hv3lp12_11 | exact zFrm_p hv3lp12_11 (by omega) | exact zFrm_t hv3lp12_11 po1_r17 (by omega) | exact zFrm_t hv3lp12_11 po1_m46 (by omega)
              refine zw_7 zr_14_120 rfl ?_
              refine zw_3 zr_14_121 rfl ?_
              refine zw_3 zr_14_122 rfl ?_
              refine zw_C zr_14_123 (Or.inl rfl) zm_11 rfl rfl ⟨Nat.le_of_ble_eq_true rfl, Nat.le_of_ble_eq_true rfl, Nat.le_of_ble_eq_true rfl, rfl, by decide⟩ (by omega) (th_11 (d := d - 1) (by omega) hIm46 (a0 := g1) (a1 := p7) (g0 := f50)  (F47 := F47) (F48 := f47) ef50 fm46_47 fm46_48 (by omega) (by omega) (by omega)) ?_
              rintro _ m53 ⟨rfl, hIm53, gm53, po0_m53, po1_m53, po2_m53⟩
              have hFm53 : zFr W_14 m0 m53 := hFm46.trans gm53 rfl
              have km53_45_5 : m53 45 5 = g4 := (gm53 45 5 rfl).trans km46_45_5
              have km53_45_7 : m53 45 7 = g0 := (gm53 45 7 rfl).trans po4_m46
              have km53_45_1 : m53 45 1 = f48 := (gm53 45 1 rfl).trans ef48
              have km53_45_6 : m53 45 6 = f49 := (gm53 45 6 rfl).trans ef49
              have fm53_47 : m53 47 = F47 := (funext fun k => gm53 47 k rfl).trans fm46_47
              obtain ⟨f54, fm53_48⟩ : ∃ f, m53 48 = f := ⟨_, rfl⟩
              try rw [fm53_48] at po0_m53
              try rw [fm53_48] at po1_m53
              obtain ⟨f55, ef55⟩ : ∃ v, m53 45 8 = v := ⟨_, rfl⟩
              have bf55 := ib_45_8 hIm53
              rw [ef55] at bf55
              rw [ef55] at po0_m53
              rw [ef55] at po2_m53
              show zW E (d) 14 126 [(2, 45), (0, g1), (0, i4), (0, p7)] [] m53 Q
              have hAq := po0_m53
              have hFa := po1_m53
              refine zw_R zr_14_126 (by decide) zm_14 (v := (9, 0)) rfl ?_
              rw [← hQ]; exact ⟨rfl, hIm53, hFm53, by rw [fm53_48, km53_45_6, ef55, km53_45_1]; exact zUn2 hv1lp12_11 hCr hAq hFa (by omega), by rw [fm53_48]; exact zFrm_t hFr hFa (by omega), by omega, by omega, by omega⟩
          · intro h61
            have hL : i4 ≠ -1 := by omega
            have hM : p7 < g4 := by omega
            refine zw_7 zr_14_83 rfl ?_
            refine zw_43 zr_14_84 rfl ?_
            refine zw_46i zr_14_85 km6_45_6 rfl rfl rfl ?_
            refine zw_push zr_14_88 ?_
            refine zw_16 zr_14_89 (by omega) ?_
            refine zw_47 (c := 45) zr_14_90 rfl ⟨rfl, by decide, rfl⟩ ?_
            intro m64 em64
            have hIm64 : zInv m64 := by rw [em64]; exact hIm6.bd (r := 45) (k := 6) (lo := 0) (hi := 50) rfl (by omega) (by decide) (by decide) (by decide)
            have hFm64 : zFr W_14 m0 m64 := by rw [em64]; exact hFm6.up rfl
            have km64_45_7 : m64 45 7 = g0 := by rw [em64, zUp_ne (by omega)]; exact km6_45_7
            have km64_45_5 : m64 45 5 = g4 := by rw [em64, zUp_ne (by omega)]; exact km6_45_5
            have km64_45_1 : m64 45 1 = p8 := by rw [em64, zUp_ne (by omega)]; exact km6_45_1
            have km64_45_8 : m64 45 8 = p9 := by rw [em64, zUp_ne (by omega)]; exact km6_45_8
            have km64_45_6 : m64 45 6 = (p7 + 1) := by rw [em64]; exact zUp_eq _ _ _ _
            have fm64_47 : m64 47 = F47 := by rw [em64, zUp_fn (by decide)]; exact fm6_47
            have fm64_48 : m64 48 = f10 := by rw [em64, zUp_fn (by decide)]; exact fm6_48
            clear em64
            refine zw_7 zr_14_93 rfl ?_
            refine zw_3 zr_14_94 rfl ?_
            refine zw_38 zr_14_95 (by omega) ?_
            refine zw_C zr_14_96 (Or.inl rfl) zm_8 rfl rfl ⟨Nat.le_of_ble_eq_true rfl, Nat.le_of_ble_eq_true rfl, Nat.le_of_ble_eq_true rfl, rfl, by decide⟩ (by omega) (P := (fun v m' => zW E (d) 14 99 [(2, 45), (0, g1), (0, i4), (0, p7)] (if v.1 = 9 then [] else v :: []) m' Q)) ?_ (fun _ _ h => h)
            generalize hQ1 : (fun v m' => zW E (d) 14 99 [(2, 45), (0, g1), (0, i4), (0, p7)] (if v.1 = 9 then [] else v :: []) m' Q) = Q1
            show zW E (d - 1) 8 0 [(2, 45), (0, (-i4))] [] m64 Q1
            refine zw_7 zr_8_0 rfl ?_
            refine zw_46i zr_8_1 km64_45_8 rfl rfl rfl ?_
            refine zw_push zr_8_4 ?_
            refine zw_41_3 zr_8_6 ?_ ?_
            · intro h65
              refine zw_R zr_8_29 (by decide) zm_8 (v := (9, 0)) rfl ?_
              rw [← hQ1]
              show zW E (d) 14 99 [(2, 45), (0, g1), (0, i4), (0, p7)] [] m64 Q
              refine zw_42 zr_14_99 ?_
              have hCr : zCr (chf F47 g4) g0 p7 g3 f10 (p7 + 1) p9 p8 := by first | exact zCr_c po0_r17 (by omega) | exact zCr_c zz (by omega) | exact zCr_l hv1lp12_11 (by omega) rfl (by omega) | exact zCr_f hv1lp12_11 (by omega) (by omega) (by omega) (by omega) | (exfalso; omega)
              have hFr : zFrm F48 f10 g3 := by first | exact hv3lp12_11 | exact zFrm_p hv3lp12_11 (by omega) | exact zFrm_t hv3lp12_11 po1_r17 (by omega) | exact zFrm_t hv3lp12_11 zz (by omega)
              refine zw_7 zr_14_120 rfl ?_
              refine zw_3 zr_14_121 rfl ?_
              refine zw_3 zr_14_122 rfl ?_
              refine zw_C zr_14_123 (Or.inl rfl) zm_11 rfl rfl ⟨Nat.le_of_ble_eq_true rfl, Nat.le_of_ble_eq_true rfl, Nat.le_of_ble_eq_true rfl, rfl, by decide⟩ (by omega) (th_11 (d := d - 1) (by omega) hIm64 (a0 := g1) (a1 := p7) (g0 := p9)  (F47 := F47) (F48 := f10) km64_45_8 fm64_47 fm64_48 (by omega) (by omega) (by omega)) ?_
              rintro _ m68 ⟨rfl, hIm68, gm68, po0_m68, po1_m68, po2_m68⟩
              have hFm68 : zFr W_14 m0 m68 := hFm64.trans gm68 rfl
              have km68_45_7 : m68 45 7 = g0 := (gm68 45 7 rfl).trans km64_45_7
              have km68_45_5 : m68 45 5 = g4 := (gm68 45 5 rfl).trans km64_45_5
              have km68_45_1 : m68 45 1 = p8 := (gm68 45 1 rfl).trans km64_45_1
              have km68_45_6 : m68 45 6 = (p7 + 1) := (gm68 45 6 rfl).trans km64_45_6
              have fm68_47 : m68 47 = F47 := (funext fun k => gm68 47 k rfl).trans fm64_47
              obtain ⟨f69, fm68_48⟩ : ∃ f, m68 48 = f := ⟨_, rfl⟩
              try rw [fm68_48] at po0_m68
              try rw [fm68_48] at po1_m68
              obtain ⟨f70, ef70⟩ : ∃ v, m68 45 8 = v := ⟨_, rfl⟩
              have bf70 := ib_45_8 hIm68
              rw [ef70] at bf70
              rw [ef70] at po0_m68
              rw [ef70] at po2_m68
              show zW E (d) 14 126 [(2, 45), (0, g1), (0, i4), (0, p7)] [] m68 Q
              have hAq := po0_m68
              have hFa := po1_m68
              refine zw_R zr_14_126 (by decide) zm_14 (v := (9, 0)) rfl ?_
              rw [← hQ]; exact ⟨rfl, hIm68, hFm68, by rw [fm68_48, km68_45_6, ef70, km68_45_1]; exact zUn2 hv1lp12_11 hCr hAq hFa (by omega), by rw [fm68_48]; exact zFrm_t hFr hFa (by omega), by omega, by omega, by omega⟩
            · intro h76
              refine zw_7 zr_8_9 rfl ?_
              refine zw_46r (s := 48) zr_8_10 rfl rfl rfl rfl ?_
              refine zw_7 zr_8_13 rfl ?_
              refine zw_46i zr_8_14 km64_45_8 rfl rfl rfl ?_
              refine zw_3 zr_8_17 rfl ?_
              refine zw_49 (c := 48) (len := 50) zr_8_18 rfl rfl (by omega) (by omega) ?_
              intro m77 em77
              have hIm77 : zInv m77 := by rw [em77]; exact iu_48 hIm64 (by omega)
              have hFm77 : zFr W_14 m0 m77 := by rw [em77]; exact hFm64.any rfl
              have km77_45_7 : m77 45 7 = g0 := by rw [em77, zUp_ne (by omega)]; exact km64_45_7
              have km77_45_5 : m77 45 5 = g4 := by rw [em77, zUp_ne (by omega)]; exact km64_45_5
              have km77_45_1 : m77 45 1 = p8 := by rw [em77, zUp_ne (by omega)]; exact km64_45_1
              have km77_45_8 : m77 45 8 = p9 := by rw [em77, zUp_ne (by omega)]; exact km64_45_8
              have km77_45_6 : m77 45 6 = (p7 + 1) := by rw [em77, zUp_ne (by omega)]; exact km64_45_6
              have fm77_47 : m77 47 = F47 := by rw [em77, zUp_fn (by decide)]; exact fm64_47
              have fm77_48 : m77 48 = zPt f10 ((p9).toNat) ((-i4)) := by rw [em77]; exact (zUp_ff (m := m64)).trans (congrArg (fun q => zPt q ((p9).toNat) ((-i4))) fm64_48)
              clear em77
              refine zw_7 zr_8_19 rfl ?_
              refine zw_43 zr_8_20 rfl ?_
              refine zw_46i zr_8_21 km77_45_8 rfl rfl rfl ?_
              refine zw_push zr_8_24 ?_
              refine zw_16 zr_8_25 (by omega) ?_
              refine zw_47 (c := 45) zr_8_26 rfl ⟨rfl, by decide, rfl⟩ ?_
              intro m78 em78
              have hIm78 : zInv m78 := by rw [em78]; exact hIm77.bd (r := 45) (k := 8) (lo := 0) (hi := 50) rfl (by omega) (by decide) (by decide) (by decide)
              have hFm78 : zFr W_14 m0 m78 := by rw [em78]; exact hFm77.up rfl
              have km78_45_7 : m78 45 7 = g0 := by rw [em78, zUp_ne (by omega)]; exact km77_45_7
              have km78_45_5 : m78 45 5 = g4 := by rw [em78, zUp_ne (by omega)]; exact km77_45_5
              have km78_45_1 : m78 45 1 = p8 := by rw [em78, zUp_ne (by omega)]; exact km77_45_1
              have km78_45_6 : m78 45 6 = (p7 + 1) := by rw [em78, zUp_ne (by omega)]; exact km77_45_6
              have km78_45_8 : m78 45 8 = (p9 + 1) := by rw [em78]; exact zUp_eq _ _ _ _
              have fm78_47 : m78 47 = F47 := by rw [em78, zUp_fn (by decide)]; exact fm77_47
              have fm78_48 : m78 48 = zPt f10 ((p9).toNat) ((-i4)) := by rw [em78, zUp_fn (by decide)]; exact fm77_48
              clear em78
              refine zw_R zr_8_29 (by decide) zm_8 (v := (9, 0)) rfl ?_
              rw [← hQ1]
              show zW E (d) 14 99 [(2, 45), (0, g1), (0, i4), (0, p7)] [] m78 Q
              refine zw_42 zr_14_99 ?_
              have hCr : zCr (chf F47 g4) g0 p7 g3 (zPt f10 ((p9).toNat) ((-i4))) (p7 + 1) (p9 + 1) p8 := by first | exact zCr_c po0_r17 (by omega) | exact zCr_c zz (by omega) | exact zCr_l hv1lp12_11 (by omega) rfl (by omega) | exact zCr_f hv1lp12_11 (by omega) (by omega) (by omega) (by omega) | (exfalso; omega)
              have hFr : zFrm F48 (zPt f10 ((p9).toNat) ((-i4))) g3 := by first | exact hv3lp12_11 | exact zFrm_p hv3lp12_11 (by omega) | exact zFrm_t hv3lp12_11 po1_r17 (by omega) | exact zFrm_t hv3lp12_11 zz (by omega)
              refine zw_7 zr_14_120 rfl ?_
              refine zw_3 zr_14_121 rfl ?_
              refine zw_3 zr_14_122 rfl ?_
              refine zw_C zr_14_123 (Or.inl rfl) zm_11 rfl rfl ⟨Nat.le_of_ble_eq_true rfl, Nat.le_of_ble_eq_true rfl, Nat.le_of_ble_eq_true rfl, rfl, by decide⟩ (by omega) (th_11 (d := d - 1) (by omega) hIm78 (a0 := g1) (a1 := p7) (g0 := (p9 + 1))  (F47 := F47) (F48 := zPt f10 ((p9).toNat) ((-i4))) km78_45_8 fm78_47 fm78_48 (by omega) (by omega) (by omega)) ?_
              rintro _ m81 ⟨rfl, hIm81, gm81, po0_m81, po1_m81, po2_m81⟩
              have hFm81 : zFr W_14 m0 m81 := hFm78.trans gm81 rfl
              have km81_45_7 : m81 45 7 = g0 := (gm81 45 7 rfl).trans km78_45_7
              have km81_45_5 : m81 45 5 = g4 := (gm81 45 5 rfl).trans km78_45_5
              have km81_45_1 : m81 45 1 = p8 := (gm81 45 1 rfl).trans km78_45_1
              have km81_45_6 : m81 45 6 = (p7 + 1) := (gm81 45 6 rfl).trans km78_45_6
              have fm81_47 : m81 47 = F47 := (funext fun k => gm81 47 k rfl).trans fm78_47
              obtain ⟨f82, fm81_48⟩ : ∃ f, m81 48 = f := ⟨_, rfl⟩
              try rw [fm81_48] at po0_m81
              try rw [fm81_48] at po1_m81
              obtain ⟨f83, ef83⟩ : ∃ v, m81 45 8 = v := ⟨_, rfl⟩
              have bf83 := ib_45_8 hIm81
              rw [ef83] at bf83
              rw [ef83] at po0_m81
              rw [ef83] at po2_m81
              show zW E (d) 14 126 [(2, 45), (0, g1), (0, i4), (0, p7)] [] m81 Q
              have hAq := po0_m81
              have hFa := po1_m81
              refine zw_R zr_14_126 (by decide) zm_14 (v := (9, 0)) rfl ?_
              rw [← hQ]; exact ⟨rfl, hIm81, hFm81, by rw [fm81_48, km81_45_6, ef83, km81_45_1]; exact zUn2 hv1lp12_11 hCr hAq hFa (by omega), by rw [fm81_48]; exact zFrm_t hFr hFa (by omega), by omega, by omega, by omega⟩
        · intro h89
          refine zw_3 zr_14_62 rfl ?_
          refine zw_push zr_14_63 ?_
          refine zw_41_2 zr_14_65 ?_ ?_
          · intro h90
            refine zw_3 zr_14_75 rfl ?_
            refine zw_C zr_14_76 (Or.inr rfl) zm_10 rfl rfl ⟨Nat.le_of_ble_eq_true rfl, Nat.le_of_ble_eq_true rfl, Nat.le_of_ble_eq_true rfl, rfl, by decide⟩ (by omega) (th_10 (d := d - 1) (by omega) hIm6 (a0 := i4)      (by omega) ) ?_
            rintro _ _ ⟨r91, rfl, hr91a, hr91b, rfl, po0_r91, po1_r91⟩
            show zW E (d) 14 79 [(2, 45), (0, g1), (0, i4), (0, p7)] [(0, r91)] m6 Q
            refine zw_push zr_14_79 ?_
            refine zw_41_1 zr_14_80 ?_ ?_
            · intro h92
              refine zw_3 zr_14_102 rfl ?_
              refine zw_push zr_14_103 ?_
              refine zw_41_4 zr_14_105 ?_ ?_
              · intro h93
                refine zw_7 zr_14_115 rfl ?_
                refine zw_push zr_14_116 ?_
                refine zw_C zr_14_117 (Or.inl rfl) zm_5 rfl rfl ⟨Nat.le_of_ble_eq_true rfl, Nat.le_of_ble_eq_true rfl, Nat.le_of_ble_eq_true rfl, rfl, by decide⟩ (by omega) (P := (fun v m' => zW E (d) 14 120 [(2, 45), (0, g1), (0, i4), (0, p7)] (if v.1 = 9 then [] else v :: []) m' Q)) ?_ (fun _ _ h => h)
                generalize hQ1 : (fun v m' => zW E (d) 14 120 [(2, 45), (0, g1), (0, i4), (0, p7)] (if v.1 = 9 then [] else v :: []) m' Q) = Q1
                show zW E (d - 1) 5 0 [(2, 45), (0, 1)] [] m6 Q1
                refine zw_7 zr_5_0 rfl ?_
                refine zw_46i zr_5_1 km6_45_1 rfl rfl rfl ?_
                refine zw_push zr_5_4 ?_
                refine zw_41_4 zr_5_5 ?_ ?_
                · intro h94
                  refine zw_R zr_5_21 (by decide) zm_5 (v := (9, 0)) rfl ?_
                  rw [← hQ1]
                  show zW E (d) 14 120 [(2, 45), (0, g1), (0, i4), (0, p7)] [] m6 Q
                  have hCr : zCr (chf F47 g4) g0 p7 g3 f10 p7 p9 p8 := by first | exact zCr_c po0_r91 (by omega) | exact zCr_c zz (by omega) | exact zCr_l hv1lp12_11 (by omega) rfl (by omega) | exact zCr_f hv1lp12_11 (by omega) (by omega) (by omega) (by omega) | (exfalso; omega)
                  have hFr : zFrm F48 f10 g3 := by first | exact hv3lp12_11 | exact zFrm_p hv3lp12_11 (by omega) | exact zFrm_t hv3lp12_11 po1_r91 (by omega) | exact zFrm_t hv3lp12_11 zz (by omega)
                  refine zw_7 zr_14_120 rfl ?_
                  refine zw_3 zr_14_121 rfl ?_
                  refine zw_3 zr_14_122 rfl ?_
                  refine zw_C zr_14_123 (Or.inl rfl) zm_11 rfl rfl ⟨Nat.le_of_ble_eq_true rfl, Nat.le_of_ble_eq_true rfl, Nat.le_of_ble_eq_true rfl, rfl, by decide⟩ (by omega) (th_11 (d := d - 1) (by omega) hIm6 (a0 := g1) (a1 := p7) (g0 := p9)  (F47 := F47) (F48 := f10) km6_45_8 fm6_47 fm6_48 (by omega) (by omega) (by omega)) ?_
                  rintro _ m97 ⟨rfl, hIm97, gm97, po0_m97, po1_m97, po2_m97⟩
                  have hFm97 : zFr W_14 m0 m97 := hFm6.trans gm97 rfl
                  have km97_45_7 : m97 45 7 = g0 := (gm97 45 7 rfl).trans km6_45_7
                  have km97_45_5 : m97 45 5 = g4 := (gm97 45 5 rfl).trans km6_45_5
                  have km97_45_6 : m97 45 6 = p7 := (gm97 45 6 rfl).trans km6_45_6
                  have km97_45_1 : m97 45 1 = p8 := (gm97 45 1 rfl).trans km6_45_1
                  have fm97_47 : m97 47 = F47 := (funext fun k => gm97 47 k rfl).trans fm6_47
                  obtain ⟨f98, fm97_48⟩ : ∃ f, m97 48 = f := ⟨_, rfl⟩
                  try rw [fm97_48] at po0_m97
                  try rw [fm97_48] at po1_m97
                  obtain ⟨f99, ef99⟩ : ∃ v, m97 45 8 = v := ⟨_, rfl⟩
                  have bf99 := ib_45_8 hIm97
                  rw [ef99] at bf99
                  rw [ef99] at po0_m97
                  rw [ef99] at po2_m97
                  show zW E (d) 14 126 [(2, 45), (0, g1), (0, i4), (0, p7)] [] m97 Q
                  have hAq := po0_m97
                  have hFa := po1_m97
                  refine zw_R zr_14_126 (by decide) zm_14 (v := (9, 0)) rfl ?_
                  rw [← hQ]; exact ⟨rfl, hIm97, hFm97, by rw [fm97_48, km97_45_6, ef99, km97_45_1]; exact zUn2 hv1lp12_11 hCr hAq hFa (by omega), by rw [fm97_48]; exact zFrm_t hFr hFa (by omega), by omega, by omega, by omega⟩
                · intro h105
                  refine zw_7 zr_5_8 rfl ?_
                  refine zw_7 zr_5_9 rfl ?_
                  refine zw_46i zr_5_10 km6_45_6 rfl rfl rfl ?_
                  refine zw_push zr_5_13 ?_
                  refine zw_18 zr_5_15 (by omega) ?_
                  refine zw_3 zr_5_16 rfl ?_
                  refine zw_16 zr_5_17 (by omega) ?_
                  refine zw_47 (c := 45) zr_5_18 rfl ⟨rfl, by decide, rfl⟩ ?_
                  intro m106 em106
                  have hIm106 : zInv m106 := by rw [em106]; exact hIm6.any (by omega) rfl (by decide) (by decide)
                  have hFm106 : zFr W_14 m0 m106 := by rw [em106]; exact hFm6.up rfl
                  have km106_45_7 : m106 45 7 = g0 := by rw [em106, zUp_ne (by omega)]; exact km6_45_7
                  have km106_45_5 : m106 45 5 = g4 := by rw [em106, zUp_ne (by omega)]; exact km6_45_5
                  have km106_45_6 : m106 45 6 = p7 := by rw [em106, zUp_ne (by omega)]; exact km6_45_6
                  have km106_45_8 : m106 45 8 = p9 := by rw [em106, zUp_ne (by omega)]; exact km6_45_8
                  have km106_45_1 : m106 45 1 = ((p7 * 10) + 1) := by rw [em106]; exact zUp_eq _ _ _ _
                  have fm106_47 : m106 47 = F47 := by rw [em106, zUp_fn (by decide)]; exact fm6_47
                  have fm106_48 : m106 48 = f10 := by rw [em106, zUp_fn (by decide)]; exact fm6_48
                  clear em106
                  refine zw_R zr_5_21 (by decide) zm_5 (v := (9, 0)) rfl ?_
                  rw [← hQ1]
                  show zW E (d) 14 120 [(2, 45), (0, g1), (0, i4), (0, p7)] [] m106 Q
                  have hCr : zCr (chf F47 g4) g0 p7 g3 f10 p7 p9 ((p7 * 10) + 1) := by first | exact zCr_c po0_r91 (by omega) | exact zCr_c zz (by omega) | exact zCr_l hv1lp12_11 (by omega) rfl (by omega) | exact zCr_f hv1lp12_11 (by omega) (by omega) (by omega) (by omega) | (exfalso; omega)
                  have hFr : zFrm F48 f10 g3 := by first | exact hv3lp12_11 | exact zFrm_p hv3lp12_11 (by omega) | exact zFrm_t hv3lp12_11 po1_r91 (by omega) | exact zFrm_t hv3lp12_11 zz (by omega)
                  refine zw_7 zr_14_120 rfl ?_
                  refine zw_3 zr_14_121 rfl ?_
                  refine zw_3 zr_14_122 rfl ?_
                  refine zw_C zr_14_123 (Or.inl rfl) zm_11 rfl rfl ⟨Nat.le_of_ble_eq_true rfl, Nat.le_of_ble_eq_true rfl, Nat.le_of_ble_eq_true rfl, rfl, by decide⟩ (by omega) (th_11 (d := d - 1) (by omega) hIm106 (a0 := g1) (a1 := p7) (g0 := p9)  (F47 := F47) (F48 := f10) km106_45_8 fm106_47 fm106_48 (by omega) (by omega) (by omega)) ?_
                  rintro _ m109 ⟨rfl, hIm109, gm109, po0_m109, po1_m109, po2_m109⟩
                  have hFm109 : zFr W_14 m0 m109 := hFm106.trans gm109 rfl
                  have km109_45_7 : m109 45 7 = g0 := (gm109 45 7 rfl).trans km106_45_7
                  have km109_45_5 : m109 45 5 = g4 := (gm109 45 5 rfl).trans km106_45_5
                  have km109_45_6 : m109 45 6 = p7 := (gm109 45 6 rfl).trans km106_45_6
                  have km109_45_1 : m109 45 1 = ((p7 * 10) + 1) := (gm109 45 1 rfl).trans km106_45_1
                  have fm109_47 : m109 47 = F47 := (funext fun k => gm109 47 k rfl).trans fm106_47
                  obtain ⟨f110, fm109_48⟩ : ∃ f, m109 48 = f := ⟨_, rfl⟩
                  try rw [fm109_48] at po0_m109
                  try rw [fm109_48] at po1_m109
                  obtain ⟨f111, ef111⟩ : ∃ v, m109 45 8 = v := ⟨_, rfl⟩
                  have bf111 := ib_45_8 hIm109
                  rw [ef111] at bf111
                  rw [ef111] at po0_m109
                  rw [ef111] at po2_m109
                  show zW E (d) 14 126 [(2, 45), (0, g1), (0, i4), (0, p7)] [] m109 Q
                  have hAq := po0_m109
                  have hFa := po1_m109
                  refine zw_R zr_14_126 (by decide) zm_14 (v := (9, 0)) rfl ?_
                  rw [← hQ]; exact ⟨rfl, hIm109, hFm109, by rw [fm109_48, km109_45_6, ef111, km109_45_1]; exact zUn2 hv1lp12_11 hCr hAq hFa (by omega), by rw [fm109_48]; exact zFrm_t hFr hFa (by omega), by omega, by omega, by omega⟩
              · intro h117; omega
            · intro h118
              have hL : i4 ≠ -1 := by omega
              have hM : p7 < g4 := by omega
              refine zw_7 zr_14_83 rfl ?_
              refine zw_43 zr_14_84 rfl ?_
              refine zw_46i zr_14_85 km6_45_6 rfl rfl rfl ?_
              refine zw_push zr_14_88 ?_
              refine zw_16 zr_14_89 (by omega) ?_
              refine zw_47 (c := 45) zr_14_90 rfl ⟨rfl, by decide, rfl⟩ ?_
              intro m121 em121
              have hIm121 : zInv m121 := by rw [em121]; exact hIm6.bd (r := 45) (k := 6) (lo := 0) (hi := 50) rfl (by omega) (by decide) (by decide) (by decide)
              have hFm121 : zFr W_14 m0 m121 := by rw [em121]; exact hFm6.up rfl
              have km121_45_7 : m121 45 7 = g0 := by rw [em121, zUp_ne (by omega)]; exact km6_45_7
              have km121_45_5 : m121 45 5 = g4 := by rw [em121, zUp_ne (by omega)]; exact km6_45_5
              have km121_45_1 : m121 45 1 = p8 := by rw [em121, zUp_ne (by omega)]; exact km6_45_1
              have km121_45_8 : m121 45 8 = p9 := by rw [em121, zUp_ne (by omega)]; exact km6_45_8
              have km121_45_6 : m121 45 6 = (p7 + 1) := by rw [em121]; exact zUp_eq _ _ _ _
              have fm121_47 : m121 47 = F47 := by rw [em121, zUp_fn (by decide)]; exact fm6_47
              have fm121_48 : m121 48 = f10 := by rw [em121, zUp_fn (by decide)]; exact fm6_48
              clear em121
              refine zw_7 zr_14_93 rfl ?_
              refine zw_3 zr_14_94 rfl ?_
              refine zw_38 zr_14_95 (by omega) ?_
              refine zw_C zr_14_96 (Or.inl rfl) zm_8 rfl rfl ⟨Nat.le_of_ble_eq_true rfl, Nat.le_of_ble_eq_true rfl, Nat.le_of_ble_eq_true rfl, rfl, by decide⟩ (by omega) (P := (fun v m' => zW E (d) 14 99 [(2, 45), (0, g1), (0, i4), (0, p7)] (if v.1 = 9 then [] else v :: []) m' Q)) ?_ (fun _ _ h => h)
              generalize hQ1 : (fun v m' => zW E (d) 14 99 [(2, 45), (0, g1), (0, i4), (0, p7)] (if v.1 = 9 then [] else v :: []) m' Q) = Q1
              show zW E (d - 1) 8 0 [(2, 45), (0, (-i4))] [] m121 Q1
              refine zw_7 zr_8_0 rfl ?_
              refine zw_46i zr_8_1 km121_45_8 rfl rfl rfl ?_
              refine zw_push zr_8_4 ?_
              refine zw_41_3 zr_8_6 ?_ ?_
              · intro h122
                refine zw_R zr_8_29 (by decide) zm_8 (v := (9, 0)) rfl ?_
                rw [← hQ1]
                show zW E (d) 14 99 [(2, 45), (0, g1), (0, i4), (0, p7)] [] m121 Q
                refine zw_42 zr_14_99 ?_
                have hCr : zCr (chf F47 g4) g0 p7 g3 f10 (p7 + 1) p9 p8 := by first | exact zCr_c po0_r91 (by omega) | exact zCr_c zz (by omega) | exact zCr_l hv1lp12_11 (by omega) rfl (by omega) | exact zCr_f hv1lp12_11 (by omega) (by omega) (by omega) (by omega) | (exfalso; omega)
                have hFr : zFrm F48 f10 g3 := by first | exact hv3lp12_11 | exact zFrm_p hv3lp12_11 (by omega) | exact zFrm_t hv3lp12_11 po1_r91 (by omega) | exact zFrm_t hv3lp12_11 zz (by omega)
                refine zw_7 zr_14_120 rfl ?_
                refine zw_3 zr_14_121 rfl ?_
                refine zw_3 zr_14_122 rfl ?_
                refine zw_C zr_14_123 (Or.inl rfl) zm_11 rfl rfl ⟨Nat.le_of_ble_eq_true rfl, Nat.le_of_ble_eq_true rfl, Nat.le_of_ble_eq_true rfl, rfl, by decide⟩ (by omega) (th_11 (d := d - 1) (by omega) hIm121 (a0 := g1) (a1 := p7) (g0 := p9)  (F47 := F47) (F48 := f10) km121_45_8 fm121_47 fm121_48 (by omega) (by omega) (by omega)) ?_
                rintro _ m125 ⟨rfl, hIm125, gm125, po0_m125, po1_m125, po2_m125⟩
                have hFm125 : zFr W_14 m0 m125 := hFm121.trans gm125 rfl
                have km125_45_7 : m125 45 7 = g0 := (gm125 45 7 rfl).trans km121_45_7
                have km125_45_5 : m125 45 5 = g4 := (gm125 45 5 rfl).trans km121_45_5
                have km125_45_1 : m125 45 1 = p8 := (gm125 45 1 rfl).trans km121_45_1
                have km125_45_6 : m125 45 6 = (p7 + 1) := (gm125 45 6 rfl).trans km121_45_6
                have fm125_47 : m125 47 = F47 := (funext fun k => gm125 47 k rfl).trans fm121_47
                obtain ⟨f126, fm125_48⟩ : ∃ f, m125 48 = f := ⟨_, rfl⟩
                try rw [fm125_48] at po0_m125
                try rw [fm125_48] at po1_m125
                obtain ⟨f127, ef127⟩ : ∃ v, m125 45 8 = v := ⟨_, rfl⟩
                have bf127 := ib_45_8 hIm125
                rw [ef127] at bf127
                rw [ef127] at po0_m125
                rw [ef127] at po2_m125
                show zW E (d) 14 126 [(2, 45), (0, g1), (0, i4), (0, p7)] [] m125 Q
                have hAq := po0_m125
                have hFa := po1_m125
                refine zw_R zr_14_126 (by decide) zm_14 (v := (9, 0)) rfl ?_
                rw [← hQ]; exact ⟨rfl, hIm125, hFm125, by rw [fm125_48, km125_45_6, ef127, km125_45_1]; exact zUn2 hv1lp12_11 hCr hAq hFa (by omega), by rw [fm125_48]; exact zFrm_t hFr hFa (by omega), by omega, by omega, by omega⟩
              · intro h133
                refine zw_7 zr_8_9 rfl ?_
                refine zw_46r (s := 48) zr_8_10 rfl rfl rfl rfl ?_
                refine zw_7 zr_8_13 rfl ?_
                refine zw_46i zr_8_14 km121_45_8 rfl rfl rfl ?_
                refine zw_3 zr_8_17 rfl ?_
                refine zw_49 (c := 48) (len := 50) zr_8_18 rfl rfl (by omega) (by omega) ?_
                intro m134 em134
                have hIm134 : zInv m134 := by rw [em134]; exact iu_48 hIm121 (by omega)
                have hFm134 : zFr W_14 m0 m134 := by rw [em134]; exact hFm121.any rfl
                have km134_45_7 : m134 45 7 = g0 := by rw [em134, zUp_ne (by omega)]; exact km121_45_7
                have km134_45_5 : m134 45 5 = g4 := by rw [em134, zUp_ne (by omega)]; exact km121_45_5
                have km134_45_1 : m134 45 1 = p8 := by rw [em134, zUp_ne (by omega)]; exact km121_45_1
                have km134_45_8 : m134 45 8 = p9 := by rw [em134, zUp_ne (by omega)]; exact km121_45_8
                have km134_45_6 : m134 45 6 = (p7 + 1) := by rw [em134, zUp_ne (by omega)]; exact km121_45_6
                have fm134_47 : m134 47 = F47 := by rw [em134, zUp_fn (by decide)]; exact fm121_47
                have fm134_48 : m134 48 = zPt f10 ((p9).toNat) ((-i4)) := by rw [em134]; exact (zUp_ff (m := m121)).trans (congrArg (fun q => zPt q ((p9).toNat) ((-i4))) fm121_48)
                clear em134
                refine zw_7 zr_8_19 rfl ?_
                refine zw_43 zr_8_20 rfl ?_
                refine zw_46i zr_8_21 km134_45_8 rfl rfl rfl ?_
                refine zw_push zr_8_24 ?_
                refine zw_16 zr_8_25 (by omega) ?_
                refine zw_47 (c := 45) zr_8_26 rfl ⟨rfl, by decide, rfl⟩ ?_
                intro m135 em135
                have hIm135 : zInv m135 := by rw [em135]; exact hIm134.bd (r := 45) (k := 8) (lo := 0) (hi := 50) rfl (by omega) (by decide) (by decide) (by decide)
                have hFm135 : zFr W_14 m0 m135 := by rw [em135]; exact hFm134.up rfl
                have km135_45_7 : m135 45 7 = g0 := by rw [em135, zUp_ne (by omega)]; exact km134_45_7
                have km135_45_5 : m135 45 5 = g4 := by rw [em135, zUp_ne (by omega)]; exact km134_45_5
                have km135_45_1 : m135 45 1 = p8 := by rw [em135, zUp_ne (by omega)]; exact km134_45_1
                have km135_45_6 : m135 45 6 = (p7 + 1) := by rw [em135, zUp_ne (by omega)]; exact km134_45_6
                have km135_45_8 : m135 45 8 = (p9 + 1) := by rw [em135]; exact zUp_eq _ _ _ _
                have fm135_47 : m135 47 = F47 := by rw [em135, zUp_fn (by decide)]; exact fm134_47
                have fm135_48 : m135 48 = zPt f10 ((p9).toNat) ((-i4)) := by rw [em135, zUp_fn (by decide)]; exact fm134_48
                clear em135
                refine zw_R zr_8_29 (by decide) zm_8 (v := (9, 0)) rfl ?_
                rw [← hQ1]
                show zW E (d) 14 99 [(2, 45), (0, g1), (0, i4), (0, p7)] [] m135 Q
                refine zw_42 zr_14_99 ?_
                have hCr : zCr (chf F47 g4) g0 p7 g3 (zPt f10 ((p9).toNat) ((-i4))) (p7 + 1) (p9 + 1) p8 := by first | exact zCr_c po0_r91 (by omega) | exact zCr_c zz (by omega) | exact zCr_l hv1lp12_11 (by omega) rfl (by omega) | exact zCr_f hv1lp12_11 (by omega) (by omega) (by omega) (by omega) | (exfalso; omega)
                have hFr : zFrm F48 (zPt f10 ((p9).toNat) ((-i4))) g3 := by first | exact hv3lp12_11 | exact zFrm_p hv3lp12_11 (by omega) | exact zFrm_t hv3lp12_11 po1_r91 (by omega) | exact zFrm_t hv3lp12_11 zz (by omega)
                refine zw_7 zr_14_120 rfl ?_
                refine zw_3 zr_14_121 rfl ?_
                refine zw_3 zr_14_122 rfl ?_
                refine zw_C zr_14_123 (Or.inl rfl) zm_11 rfl rfl ⟨Nat.le_of_ble_eq_true rfl, Nat.le_of_ble_eq_true rfl, Nat.le_of_ble_eq_true rfl, rfl, by decide⟩ (by omega) (th_11 (d := d - 1) (by omega) hIm135 (a0 := g1) (a1 := p7) (g0 := (p9 + 1))  (F47 := F47) (F48 := zPt f10 ((p9).toNat) ((-i4))) km135_45_8 fm135_47 fm135_48 (by omega) (by omega) (by omega)) ?_
                rintro _ m138 ⟨rfl, hIm138, gm138, po0_m138, po1_m138, po2_m138⟩
                have hFm138 : zFr W_14 m0 m138 := hFm135.trans gm138 rfl
                have km138_45_7 : m138 45 7 = g0 := (gm138 45 7 rfl).trans km135_45_7
                have km138_45_5 : m138 45 5 = g4 := (gm138 45 5 rfl).trans km135_45_5
                have km138_45_1 : m138 45 1 = p8 := (gm138 45 1 rfl).trans km135_45_1
                have km138_45_6 : m138 45 6 = (p7 + 1) := (gm138 45 6 rfl).trans km135_45_6
                have fm138_47 : m138 47 = F47 := (funext fun k => gm138 47 k rfl).trans fm135_47
                obtain ⟨f139, fm138_48⟩ : ∃ f, m138 48 = f := ⟨_, rfl⟩
                try rw [fm138_48] at po0_m138
                try rw [fm138_48] at po1_m138
                obtain ⟨f140, ef140⟩ : ∃ v, m138 45 8 = v := ⟨_, rfl⟩
                have bf140 := ib_45_8 hIm138
                rw [ef140] at bf140
                rw [ef140] at po0_m138
                rw [ef140] at po2_m138
                show zW E (d) 14 126 [(2, 45), (0, g1), (0, i4), (0, p7)] [] m138 Q
                have hAq := po0_m138
                have hFa := po1_m138
                refine zw_R zr_14_126 (by decide) zm_14 (v := (9, 0)) rfl ?_
                rw [← hQ]; exact ⟨rfl, hIm138, hFm138, by rw [fm138_48, km138_45_6, ef140, km138_45_1]; exact zUn2 hv1lp12_11 hCr hAq hFa (by omega), by rw [fm138_48]; exact zFrm_t hFr hFa (by omega), by omega, by omega, by omega⟩
          · intro h146
            have hM : p7 < g4 := by omega
            refine zw_7 zr_14_68 rfl ?_
            refine zw_C zr_14_69 (Or.inl rfl) zm_9 rfl rfl ⟨Nat.le_of_ble_eq_true rfl, Nat.le_of_ble_eq_true rfl, Nat.le_of_ble_eq_true rfl, rfl, by decide⟩ (by omega) (th_9 (d := d - 1) (by omega) hIm6  (g0 := g0) (g1 := p7) (g2 := p8) (g3 := p9) (g4 := g4)  (F47 := F47) (F48 := f10) km6_45_7 km6_45_6 km6_45_1 km6_45_8 km6_45_5 fm6_47 fm6_48  (by omega) (by omega) (zAh_c hv1lp12_11 (by omega))) ?_
            rintro _ m149 ⟨rfl, hIm149, gm149, po0_m149, po1_m149, po2_m149, po3_m149⟩
            have hFm149 : zFr W_14 m0 m149 := hFm6.trans gm149 rfl
            have km149_45_7 : m149 45 7 = g0 := (gm149 45 7 rfl).trans km6_45_7
            have km149_45_5 : m149 45 5 = g4 := (gm149 45 5 rfl).trans km6_45_5
            have fm149_47 : m149 47 = F47 := (funext fun k => gm149 47 k rfl).trans fm6_47
            obtain ⟨f150, fm149_48⟩ : ∃ f, m149 48 = f := ⟨_, rfl⟩
            try rw [fm149_48] at po0_m149
            try rw [fm149_48] at po1_m149
            obtain ⟨f151, ef151⟩ : ∃ v, m149 45 1 = v := ⟨_, rfl⟩
            have bf151 := hIm149.fi (c := 45) (k := 1) rfl
            rw [ef151] at bf151
            rw [ef151] at po0_m149
            rw [ef151] at po2_m149
            obtain ⟨f152, ef152⟩ : ∃ v, m149 45 6 = v := ⟨_, rfl⟩
            have bf152 := ib_45_6 hIm149
            rw [ef152] at bf152
            rw [ef152] at po0_m149
            rw [ef152] at po2_m149
            rw [ef152] at po3_m149
            obtain ⟨f153, ef153⟩ : ∃ v, m149 45 8 = v := ⟨_, rfl⟩
            have bf153 := ib_45_8 hIm149
            rw [ef153] at bf153
            rw [ef153] at po0_m149
            rw [ef153] at po2_m149
            rw [ef153] at po3_m149
            show zW E (d) 14 72 [(2, 45), (0, g1), (0, i4), (0, p7)] [] m149 Q
            refine zw_42 zr_14_72 ?_
            have hCr : zCr (chf F47 g4) g0 p7 g3 f150 f152 f153 f151 := by first | exact zCr_c po0_m149 (by omega) | exact zCr_c zz (by omega) | exact zCr_l hv1lp12_11 (by omega) rfl (by omega) | exact zCr_f hv1lp12_11 (by omega) (by omega) (by omega) (by omega) | (exfalso; omega)
            have hFr : zFrm F48 f150 g3 := by first | exact hv3lp12_11 | exact zFrm_p hv3lp12_11 (by omega) | exact zFrm_t hv3lp12_11 po1_m149 (by omega) | exact zFrm_t hv3lp12_11 zz (by omega)
            refine zw_7 zr_14_120 rfl ?_
            refine zw_3 zr_14_121 rfl ?_
            refine zw_3 zr_14_122 rfl ?_
            refine zw_C zr_14_123 (Or.inl rfl) zm_11 rfl rfl ⟨Nat.le_of_ble_eq_true rfl, Nat.le_of_ble_eq_true rfl, Nat.le_of_ble_eq_true rfl, rfl, by decide⟩ (by omega) (th_11 (d := d - 1) (by omega) hIm149 (a0 := g1) (a1 := p7) (g0 := f153)  (F47 := F47) (F48 := f150) ef153 fm149_47 fm149_48 (by omega) (by omega) (by omega)) ?_
            rintro _ m156 ⟨rfl, hIm156, gm156, po0_m156, po1_m156, po2_m156⟩
            have hFm156 : zFr W_14 m0 m156 := hFm149.trans gm156 rfl
            have km156_45_7 : m156 45 7 = g0 := (gm156 45 7 rfl).trans km149_45_7
            have km156_45_5 : m156 45 5 = g4 := (gm156 45 5 rfl).trans km149_45_5
            have km156_45_1 : m156 45 1 = f151 := (gm156 45 1 rfl).trans ef151
            have km156_45_6 : m156 45 6 = f152 := (gm156 45 6 rfl).trans ef152
            have fm156_47 : m156 47 = F47 := (funext fun k => gm156 47 k rfl).trans fm149_47
            obtain ⟨f157, fm156_48⟩ : ∃ f, m156 48 = f := ⟨_, rfl⟩
            try rw [fm156_48] at po0_m156
            try rw [fm156_48] at po1_m156
            obtain ⟨f158, ef158⟩ : ∃ v, m156 45 8 = v := ⟨_, rfl⟩
            have bf158 := ib_45_8 hIm156
            rw [ef158] at bf158
            rw [ef158] at po0_m156
            rw [ef158] at po2_m156
            show zW E (d) 14 126 [(2, 45), (0, g1), (0, i4), (0, p7)] [] m156 Q
            have hAq := po0_m156
            have hFa := po1_m156
            refine zw_R zr_14_126 (by decide) zm_14 (v := (9, 0)) rfl ?_
            rw [← hQ]; exact ⟨rfl, hIm156, hFm156, by rw [fm156_48, km156_45_6, ef158, km156_45_1]; exact zUn2 hv1lp12_11 hCr hAq hFa (by omega), by rw [fm156_48]; exact zFrm_t hFr hFa (by omega), by omega, by omega, by omega⟩
      · intro h164
        refine zw_3 zr_14_18 rfl ?_
        refine zw_push zr_14_19 ?_
        refine zw_41_1 zr_14_21 ?_ ?_
        · intro h165
          refine zw_7 zr_14_30 rfl ?_
          refine zw_43 zr_14_31 rfl ?_
          refine zw_46i zr_14_32 km6_45_6 rfl rfl rfl ?_
          refine zw_push zr_14_35 ?_
          refine zw_16 zr_14_36 (by omega) ?_
          refine zw_47 (c := 45) zr_14_37 rfl ⟨rfl, by decide, rfl⟩ ?_
          intro m166 em166
          have hIm166 : zInv m166 := by rw [em166]; exact hIm6.bd (r := 45) (k := 6) (lo := 0) (hi := 50) rfl (by omega) (by decide) (by decide) (by decide)
          have hFm166 : zFr W_14 m0 m166 := by rw [em166]; exact hFm6.up rfl
          have km166_45_7 : m166 45 7 = g0 := by rw [em166, zUp_ne (by omega)]; exact km6_45_7
          have km166_45_5 : m166 45 5 = g4 := by rw [em166, zUp_ne (by omega)]; exact km6_45_5
          have km166_45_1 : m166 45 1 = p8 := by rw [em166, zUp_ne (by omega)]; exact km6_45_1
          have km166_45_8 : m166 45 8 = p9 := by rw [em166, zUp_ne (by omega)]; exact km6_45_8
          have km166_45_6 : m166 45 6 = (p7 + 1) := by rw [em166]; exact zUp_eq _ _ _ _
          have fm166_47 : m166 47 = F47 := by rw [em166, zUp_fn (by decide)]; exact fm6_47
          have fm166_48 : m166 48 = f10 := by rw [em166, zUp_fn (by decide)]; exact fm6_48
          clear em166
          refine zw_7 zr_14_40 rfl ?_
          refine zw_C zr_14_41 (Or.inl rfl) zm_6 rfl rfl ⟨Nat.le_of_ble_eq_true rfl, Nat.le_of_ble_eq_true rfl, Nat.le_of_ble_eq_true rfl, rfl, by decide⟩ (by omega) (th_6 (d := d - 1) (by omega) hIm166  (g0 := (p7 + 1)) (g1 := p8) (g2 := g4)  (F47 := F47) km166_45_6 km166_45_1 km166_45_5 fm166_47  (by omega)) ?_
          rintro _ m167 ⟨r168, rfl, hr168a, hr168b, hIm167, gm167, po0_r168, po1_r168, po2_r168, po3_r168, po4_r168⟩
          have hFm167 : zFr W_14 m0 m167 := hFm166.trans gm167 rfl
          have km167_45_7 : m167 45 7 = g0 := (gm167 45 7 rfl).trans km166_45_7
          have km167_45_5 : m167 45 5 = g4 := (gm167 45 5 rfl).trans km166_45_5
          have km167_45_1 : m167 45 1 = p8 := (gm167 45 1 rfl).trans km166_45_1
          have km167_45_8 : m167 45 8 = p9 := (gm167 45 8 rfl).trans km166_45_8
          have fm167_47 : m167 47 = F47 := (funext fun k => gm167 47 k rfl).trans fm166_47
          have fm167_48 : m167 48 = f10 := (funext fun k => gm167 48 k rfl).trans fm166_48
          obtain ⟨f169, ef169⟩ : ∃ v, m167 45 6 = v := ⟨_, rfl⟩
          have bf169 := ib_45_6 hIm167
          rw [ef169] at bf169
          rw [ef169] at po0_r168
          rw [ef169] at po1_r168
          rw [ef169] at po2_r168
          rw [ef169] at po3_r168
          show zW E (d) 14 44 [(2, 45), (0, g1), (0, i4), (0, i5)] [(0, r168)] m167 Q
          clear po0_r168 po4_r168
          refine zw_9 (L' := [(2, 45), (0, g1), (0, r168), (0, i5)]) zr_14_44 (Nat.le_of_ble_eq_true rfl) rfl ?_
          refine zw_15 (c := 1) (L' := [(2, 45), (0, g1), (0, r168), (0, (i5 + 1))]) zr_14_45 rfl (by decide) (by omega) rfl ?_
          refine zw_42 zr_14_48 ?_
          exact zw_less (L := [(2, 45), (0, g1), (0, r168), (0, (i5 + 1))]) ⟨Or.inr rfl, Or.inr rfl, Or.inr rfl, Or.inr rfl, trivial⟩ (ihlp12_11 (r168) ((i5 + 1)) (f169) (p8) (p9) (f10) m167 hIm167 hFm167  km167_45_7 km167_45_5 ef169 km167_45_1 km167_45_8 fm167_47 fm167_48 (by omega) (by omega) (by omega) (by omega) (by omega) (by omega) (by omega) (by omega) (by omega) (by omega) (by omega) (zAh_s hv1lp12_11 (by omega) po1_r168 (by omega) (by omega)) (by omega) (hv3lp12_11) (by omega))
        · intro h172
          refine zw_3 zr_14_24 rfl ?_
          refine zw_push zr_14_25 ?_
          refine zw_41_4 zr_14_27 ?_ ?_
          · intro h173
            first | have hz : i4 = -1 := by omega | skip
            refine zw_7 zr_14_51 rfl ?_
            refine zw_46i zr_14_52 km6_45_6 rfl rfl rfl ?_
            refine zw_9 (L' := [(2, 45), (0, g1), (0, i4), (0, p7)]) zr_14_55 (Nat.le_of_ble_eq_true rfl) rfl ?_
            refine zw_3 zr_14_56 rfl ?_
            refine zw_push zr_14_57 ?_
            refine zw_41_0 zr_14_59 ?_ ?_
            · intro h175
              refine zw_3 zr_14_75 rfl ?_
              refine zw_C zr_14_76 (Or.inr rfl) zm_10 rfl rfl ⟨Nat.le_of_ble_eq_true rfl, Nat.le_of_ble_eq_true rfl, Nat.le_of_ble_eq_true rfl, rfl, by decide⟩ (by omega) (th_10 (d := d - 1) (by omega) hIm6 (a0 := i4)      (by omega) ) ?_
              rintro _ _ ⟨r176, rfl, hr176a, hr176b, rfl, po0_r176, po1_r176⟩
              show zW E (d) 14 79 [(2, 45), (0, g1), (0, i4), (0, p7)] [(0, r176)] m6 Q
              refine zw_push zr_14_79 ?_
              refine zw_41_1 zr_14_80 ?_ ?_
              · intro h177
                refine zw_3 zr_14_102 rfl ?_
                refine zw_push zr_14_103 ?_
                refine zw_41_4 zr_14_105 ?_ ?_
                · intro h178
                  refine zw_7 zr_14_115 rfl ?_
                  refine zw_push zr_14_116 ?_
                  refine zw_C zr_14_117 (Or.inl rfl) zm_5 rfl rfl ⟨Nat.le_of_ble_eq_true rfl, Nat.le_of_ble_eq_true rfl, Nat.le_of_ble_eq_true rfl, rfl, by decide⟩ (by omega) (P := (fun v m' => zW E (d) 14 120 [(2, 45), (0, g1), (0, i4), (0, p7)] (if v.1 = 9 then [] else v :: []) m' Q)) ?_ (fun _ _ h => h)
                  generalize hQ1 : (fun v m' => zW E (d) 14 120 [(2, 45), (0, g1), (0, i4), (0, p7)] (if v.1 = 9 then [] else v :: []) m' Q) = Q1
                  show zW E (d - 1) 5 0 [(2, 45), (0, 1)] [] m6 Q1
                  refine zw_7 zr_5_0 rfl ?_
                  refine zw_46i zr_5_1 km6_45_1 rfl rfl rfl ?_
                  refine zw_push zr_5_4 ?_
                  refine zw_41_4 zr_5_5 ?_ ?_
                  · intro h179
                    refine zw_R zr_5_21 (by decide) zm_5 (v := (9, 0)) rfl ?_
                    rw [← hQ1]
                    show zW E (d) 14 120 [(2, 45), (0, g1), (0, i4), (0, p7)] [] m6 Q
                    have hCr : zCr (chf F47 g4) g0 p7 g3 f10 p7 p9 p8 := by first | exact zCr_c po0_r176 (by omega) | exact zCr_c zz (by omega) | exact zCr_l hv1lp12_11 (by omega) rfl (by omega) | exact zCr_f hv1lp12_11 (by omega) (by omega) (by omega) (by omega) | (exfalso; omega)
                    have hFr : zFrm F48 f10 g3 := by first | exact hv3lp12_11 | exact zFrm_p hv3lp12_11 (by omega) | exact zFrm_t hv3lp12_11 po1_r176 (by omega) | exact zFrm_t hv3lp12_11 zz (by omega)
                    refine zw_7 zr_14_120 rfl ?_
                    refine zw_3 zr_14_121 rfl ?_
                    refine zw_3 zr_14_122 rfl ?_
                    refine zw_C zr_14_123 (Or.inl rfl) zm_11 rfl rfl ⟨Nat.le_of_ble_eq_true rfl, Nat.le_of_ble_eq_true rfl, Nat.le_of_ble_eq_true rfl, rfl, by decide⟩ (by omega) (th_11 (d := d - 1) (by omega) hIm6 (a0 := g1) (a1 := p7) (g0 := p9)  (F47 := F47) (F48 := f10) km6_45_8 fm6_47 fm6_48 (by omega) (by omega) (by omega)) ?_
                    rintro _ m182 ⟨rfl, hIm182, gm182, po0_m182, po1_m182, po2_m182⟩
                    have hFm182 : zFr W_14 m0 m182 := hFm6.trans gm182 rfl
                    have km182_45_7 : m182 45 7 = g0 := (gm182 45 7 rfl).trans km6_45_7
                    have km182_45_5 : m182 45 5 = g4 := (gm182 45 5 rfl).trans km6_45_5
                    have km182_45_6 : m182 45 6 = p7 := (gm182 45 6 rfl).trans km6_45_6
                    have km182_45_1 : m182 45 1 = p8 := (gm182 45 1 rfl).trans km6_45_1
                    have fm182_47 : m182 47 = F47 := (funext fun k => gm182 47 k rfl).trans fm6_47
                    obtain ⟨f183, fm182_48⟩ : ∃ f, m182 48 = f := ⟨_, rfl⟩
                    try rw [fm182_48] at po0_m182
                    try rw [fm182_48] at po1_m182
                    obtain ⟨f184, ef184⟩ : ∃ v, m182 45 8 = v := ⟨_, rfl⟩
                    have bf184 := ib_45_8 hIm182
                    rw [ef184] at bf184
                    rw [ef184] at po0_m182
                    rw [ef184] at po2_m182
                    show zW E (d) 14 126 [(2, 45), (0, g1), (0, i4), (0, p7)] [] m182 Q
                    have hAq := po0_m182
                    have hFa := po1_m182
                    refine zw_R zr_14_126 (by decide) zm_14 (v := (9, 0)) rfl ?_
                    rw [← hQ]; exact ⟨rfl, hIm182, hFm182, by rw [fm182_48, km182_45_6, ef184, km182_45_1]; exact zUn2 hv1lp12_11 hCr hAq hFa (by omega), by rw [fm182_48]; exact zFrm_t hFr hFa (by omega), by omega, by omega, by omega⟩
                  · intro h190
                    refine zw_7 zr_5_8 rfl ?_
                    refine zw_7 zr_5_9 rfl ?_
                    refine zw_46i zr_5_10 km6_45_6 rfl rfl rfl ?_
                    refine zw_push zr_5_13 ?_
                    refine zw_18 zr_5_15 (by omega) ?_
                    refine zw_3 zr_5_16 rfl ?_
                    refine zw_16 zr_5_17 (by omega) ?_
                    refine zw_47 (c := 45) zr_5_18 rfl ⟨rfl, by decide, rfl⟩ ?_
                    intro m191 em191
                    have hIm191 : zInv m191 := by rw [em191]; exact hIm6.any (by omega) rfl (by decide) (by decide)
                    have hFm191 : zFr W_14 m0 m191 := by rw [em191]; exact hFm6.up rfl
                    have km191_45_7 : m191 45 7 = g0 := by rw [em191, zUp_ne (by omega)]; exact km6_45_7
                    have km191_45_5 : m191 45 5 = g4 := by rw [em191, zUp_ne (by omega)]; exact km6_45_5
                    have km191_45_6 : m191 45 6 = p7 := by rw [em191, zUp_ne (by omega)]; exact km6_45_6
                    have km191_45_8 : m191 45 8 = p9 := by rw [em191, zUp_ne (by omega)]; exact km6_45_8
                    have km191_45_1 : m191 45 1 = ((p7 * 10) + 1) := by rw [em191]; exact zUp_eq _ _ _ _
                    have fm191_47 : m191 47 = F47 := by rw [em191, zUp_fn (by decide)]; exact fm6_47
                    have fm191_48 : m191 48 = f10 := by rw [em191, zUp_fn (by decide)]; exact fm6_48
                    clear em191
                    refine zw_R zr_5_21 (by decide) zm_5 (v := (9, 0)) rfl ?_
                    rw [← hQ1]
                    show zW E (d) 14 120 [(2, 45), (0, g1), (0, i4), (0, p7)] [] m191 Q
                    have hCr : zCr (chf F47 g4) g0 p7 g3 f10 p7 p9 ((p7 * 10) + 1) := by first | exact zCr_c po0_r176 (by omega) | exact zCr_c zz (by omega) | exact zCr_l hv1lp12_11 (by omega) rfl (by omega) | exact zCr_f hv1lp12_11 (by omega) (by omega) (by omega) (by omega) | (exfalso; omega)
                    have hFr : zFrm F48 f10 g3 := by first | exact hv3lp12_11 | exact zFrm_p hv3lp12_11 (by omega) | exact zFrm_t hv3lp12_11 po1_r176 (by omega) | exact zFrm_t hv3lp12_11 zz (by omega)
                    refine zw_7 zr_14_120 rfl ?_
                    refine zw_3 zr_14_121 rfl ?_
                    refine zw_3 zr_14_122 rfl ?_
                    refine zw_C zr_14_123 (Or.inl rfl) zm_11 rfl rfl ⟨Nat.le_of_ble_eq_true rfl, Nat.le_of_ble_eq_true rfl, Nat.le_of_ble_eq_true rfl, rfl, by decide⟩ (by omega) (th_11 (d := d - 1) (by omega) hIm191 (a0 := g1) (a1 := p7) (g0 := p9)  (F47 := F47) (F48 := f10) km191_45_8 fm191_47 fm191_48 (by omega) (by omega) (by omega)) ?_
                    rintro _ m194 ⟨rfl, hIm194, gm194, po0_m194, po1_m194, po2_m194⟩
                    have hFm194 : zFr W_14 m0 m194 := hFm191.trans gm194 rfl
                    have km194_45_7 : m194 45 7 = g0 := (gm194 45 7 rfl).trans km191_45_7
                    have km194_45_5 : m194 45 5 = g4 := (gm194 45 5 rfl).trans km191_45_5
                    have km194_45_6 : m194 45 6 = p7 := (gm194 45 6 rfl).trans km191_45_6
                    have km194_45_1 : m194 45 1 = ((p7 * 10) + 1) := (gm194 45 1 rfl).trans km191_45_1
                    have fm194_47 : m194 47 = F47 := (funext fun k => gm194 47 k rfl).trans fm191_47
                    obtain ⟨f195, fm194_48⟩ : ∃ f, m194 48 = f := ⟨_, rfl⟩
                    try rw [fm194_48] at po0_m194
                    try rw [fm194_48] at po1_m194
                    obtain ⟨f196, ef196⟩ : ∃ v, m194 45 8 = v := ⟨_, rfl⟩
                    have bf196 := ib_45_8 hIm194
                    rw [ef196] at bf196
                    rw [ef196] at po0_m194
                    rw [ef196] at po2_m194
                    show zW E (d) 14 126 [(2, 45), (0, g1), (0, i4), (0, p7)] [] m194 Q
                    have hAq := po0_m194
                    have hFa := po1_m194
                    refine zw_R zr_14_126 (by decide) zm_14 (v := (9, 0)) rfl ?_
                    rw [← hQ]; exact ⟨rfl, hIm194, hFm194, by rw [fm194_48, km194_45_6, ef196, km194_45_1]; exact zUn2 hv1lp12_11 hCr hAq hFa (by omega), by rw [fm194_48]; exact zFrm_t hFr hFa (by omega), by omega, by omega, by omega⟩
                · intro h202
                  have hM : p7 < g4 := by omega
                  refine zw_7 zr_14_108 rfl ?_
                  refine zw_C zr_14_109 (Or.inl rfl) zm_12 rfl rfl ⟨Nat.le_of_ble_eq_true rfl, Nat.le_of_ble_eq_true rfl, Nat.le_of_ble_eq_true rfl, rfl, by decide⟩ (by omega) (ih12 m6 (g0) (p7) (p8) (p9) (g4) (F47) (f10) (by omega) hIm6 km6_45_7 km6_45_6 km6_45_1 km6_45_8 km6_45_5 fm6_47 fm6_48  (by omega) (by omega) (by omega) (zAh_d hv1lp12_11 (by omega))) ?_
                  rintro _ m205 ⟨rfl, hIm205, gm205, po0_m205, po1_m205, po2_m205, po3_m205, po4_m205⟩
                  have hFm205 : zFr W_14 m0 m205 := hFm6.trans gm205 rfl
                  have km205_45_5 : m205 45 5 = g4 := (gm205 45 5 rfl).trans km6_45_5
                  have fm205_47 : m205 47 = F47 := (funext fun k => gm205 47 k rfl).trans fm6_47
                  obtain ⟨f206, fm205_48⟩ : ∃ f, m205 48 = f := ⟨_, rfl⟩
                  try rw [fm205_48] at po0_m205
                  try rw [fm205_48] at po1_m205
                  obtain ⟨f207, ef207⟩ : ∃ v, m205 45 1 = v := ⟨_, rfl⟩
                  have bf207 := hIm205.fi (c := 45) (k := 1) rfl
                  rw [ef207] at bf207
                  rw [ef207] at po0_m205
                  rw [ef207] at po2_m205
                  obtain ⟨f208, ef208⟩ : ∃ v, m205 45 6 = v := ⟨_, rfl⟩
                  have bf208 := ib_45_6 hIm205
                  rw [ef208] at bf208
                  rw [ef208] at po0_m205
                  rw [ef208] at po2_m205
                  rw [ef208] at po3_m205
                  obtain ⟨f209, ef209⟩ : ∃ v, m205 45 8 = v := ⟨_, rfl⟩
                  have bf209 := ib_45_8 hIm205
                  rw [ef209] at bf209
                  rw [ef209] at po0_m205
                  rw [ef209] at po2_m205
                  rw [ef209] at po3_m205
                  show zW E (d) 14 112 [(2, 45), (0, g1), (0, i4), (0, p7)] [] m205 Q
                  refine zw_42 zr_14_112 ?_
                  have hCr : zCr (chf F47 g4) g0 p7 g3 f206 f208 f209 f207 := by first | exact zCr_c po0_r176 (by omega) | exact zCr_c po0_m205 (by omega) | exact zCr_l hv1lp12_11 (by omega) rfl (by omega) | exact zCr_f hv1lp12_11 (by omega) (by omega) (by omega) (by omega) | (exfalso; omega)
                  have hFr : zFrm F48 f206 g3 := by first | exact hv3lp12_11 | exact zFrm_p hv3lp12_11 (by omega) | exact zFrm_t hv3lp12_11 po1_r176 (by omega) | exact zFrm_t hv3lp12_11 po1_m205 (by omega)
                  refine zw_7 zr_14_120 rfl ?_
                  refine zw_3 zr_14_121 rfl ?_
                  refine zw_3 zr_14_122 rfl ?_
                  refine zw_C zr_14_123 (Or.inl rfl) zm_11 rfl rfl ⟨Nat.le_of_ble_eq_true rfl, Nat.le_of_ble_eq_true rfl, Nat.le_of_ble_eq_true rfl, rfl, by decide⟩ (by omega) (th_11 (d := d - 1) (by omega) hIm205 (a0 := g1) (a1 := p7) (g0 := f209)  (F47 := F47) (F48 := f206) ef209 fm205_47 fm205_48 (by omega) (by omega) (by omega)) ?_
                  rintro _ m212 ⟨rfl, hIm212, gm212, po0_m212, po1_m212, po2_m212⟩
                  have hFm212 : zFr W_14 m0 m212 := hFm205.trans gm212 rfl
                  have km212_45_5 : m212 45 5 = g4 := (gm212 45 5 rfl).trans km205_45_5
                  have km212_45_7 : m212 45 7 = g0 := (gm212 45 7 rfl).trans po4_m205
                  have km212_45_1 : m212 45 1 = f207 := (gm212 45 1 rfl).trans ef207
                  have km212_45_6 : m212 45 6 = f208 := (gm212 45 6 rfl).trans ef208
                  have fm212_47 : m212 47 = F47 := (funext fun k => gm212 47 k rfl).trans fm205_47
                  obtain ⟨f213, fm212_48⟩ : ∃ f, m212 48 = f := ⟨_, rfl⟩
                  try rw [fm212_48] at po0_m212
                  try rw [fm212_48] at po1_m212
                  obtain ⟨f214, ef214⟩ : ∃ v, m212 45 8 = v := ⟨_, rfl⟩
                  have bf214 := ib_45_8 hIm212
                  rw [ef214] at bf214
                  rw [ef214] at po0_m212
                  rw [ef214] at po2_m212
                  show zW E (d) 14 126 [(2, 45), (0, g1), (0, i4), (0, p7)] [] m212 Q
                  have hAq := po0_m212
                  have hFa := po1_m212
                  refine zw_R zr_14_126 (by decide) zm_14 (v := (9, 0)) rfl ?_
                  rw [← hQ]; exact ⟨rfl, hIm212, hFm212, by rw [fm212_48, km212_45_6, ef214, km212_45_1]; exact zUn2 hv1lp12_11 hCr hAq hFa (by omega), by rw [fm212_48]; exact zFrm_t hFr hFa (by omega), by omega, by omega, by omega⟩
              · intro h220
                have hL : i4 ≠ -1 := by omega
                have hM : p7 < g4 := by omega
                refine zw_7 zr_14_83 rfl ?_
                refine zw_43 zr_14_84 rfl ?_
                refine zw_46i zr_14_85 km6_45_6 rfl rfl rfl ?_
                refine zw_push zr_14_88 ?_
                refine zw_16 zr_14_89 (by omega) ?_
                refine zw_47 (c := 45) zr_14_90 rfl ⟨rfl, by decide, rfl⟩ ?_
                intro m223 em223
                have hIm223 : zInv m223 := by rw [em223]; exact hIm6.bd (r := 45) (k := 6) (lo := 0) (hi := 50) rfl (by omega) (by decide) (by decide) (by decide)
                have hFm223 : zFr W_14 m0 m223 := by rw [em223]; exact hFm6.up rfl
                have km223_45_7 : m223 45 7 = g0 := by rw [em223, zUp_ne (by omega)]; exact km6_45_7
                have km223_45_5 : m223 45 5 = g4 := by rw [em223, zUp_ne (by omega)]; exact km6_45_5
                have km223_45_1 : m223 45 1 = p8 := by rw [em223, zUp_ne (by omega)]; exact km6_45_1
                have km223_45_8 : m223 45 8 = p9 := by rw [em223, zUp_ne (by omega)]; exact km6_45_8
                have km223_45_6 : m223 45 6 = (p7 + 1) := by rw [em223]; exact zUp_eq _ _ _ _
                have fm223_47 : m223 47 = F47 := by rw [em223, zUp_fn (by decide)]; exact fm6_47
                have fm223_48 : m223 48 = f10 := by rw [em223, zUp_fn (by decide)]; exact fm6_48
                clear em223
                refine zw_7 zr_14_93 rfl ?_
                refine zw_3 zr_14_94 rfl ?_
                refine zw_38 zr_14_95 (by omega) ?_
                refine zw_C zr_14_96 (Or.inl rfl) zm_8 rfl rfl ⟨Nat.le_of_ble_eq_true rfl, Nat.le_of_ble_eq_true rfl, Nat.le_of_ble_eq_true rfl, rfl, by decide⟩ (by omega) (P := (fun v m' => zW E (d) 14 99 [(2, 45), (0, g1), (0, i4), (0, p7)] (if v.1 = 9 then [] else v :: []) m' Q)) ?_ (fun _ _ h => h)
                generalize hQ1 : (fun v m' => zW E (d) 14 99 [(2, 45), (0, g1), (0, i4), (0, p7)] (if v.1 = 9 then [] else v :: []) m' Q) = Q1
                show zW E (d - 1) 8 0 [(2, 45), (0, (-i4))] [] m223 Q1
                refine zw_7 zr_8_0 rfl ?_
                refine zw_46i zr_8_1 km223_45_8 rfl rfl rfl ?_
                refine zw_push zr_8_4 ?_
                refine zw_41_3 zr_8_6 ?_ ?_
                · intro h224
                  refine zw_R zr_8_29 (by decide) zm_8 (v := (9, 0)) rfl ?_
                  rw [← hQ1]
                  show zW E (d) 14 99 [(2, 45), (0, g1), (0, i4), (0, p7)] [] m223 Q
                  refine zw_42 zr_14_99 ?_
                  have hCr : zCr (chf F47 g4) g0 p7 g3 f10 (p7 + 1) p9 p8 := by first | exact zCr_c po0_r176 (by omega) | exact zCr_c zz (by omega) | exact zCr_l hv1lp12_11 (by omega) rfl (by omega) | exact zCr_f hv1lp12_11 (by omega) (by omega) (by omega) (by omega) | (exfalso; omega)
                  have hFr : zFrm F48 f10 g3 := by first | exact hv3lp12_11 | exact zFrm_p hv3lp12_11 (by omega) | exact zFrm_t hv3lp12_11 po1_r176 (by omega) | exact zFrm_t hv3lp12_11 zz (by omega)
                  refine zw_7 zr_14_120 rfl ?_
                  refine zw_3 zr_14_121 rfl ?_
                  refine zw_3 zr_14_122 rfl ?_
                  refine zw_C zr_14_123 (Or.inl rfl) zm_11 rfl rfl ⟨Nat.le_of_ble_eq_true rfl, Nat.le_of_ble_eq_true rfl, Nat.le_of_ble_eq_true rfl, rfl, by decide⟩ (by omega) (th_11 (d := d - 1) (by omega) hIm223 (a0 := g1) (a1 := p7) (g0 := p9)  (F47 := F47) (F48 := f10) km223_45_8 fm223_47 fm223_48 (by omega) (by omega) (by omega)) ?_
                  rintro _ m227 ⟨rfl, hIm227, gm227, po0_m227, po1_m227, po2_m227⟩
                  have hFm227 : zFr W_14 m0 m227 := hFm223.trans gm227 rfl
                  have km227_45_7 : m227 45 7 = g0 := (gm227 45 7 rfl).trans km223_45_7
                  have km227_45_5 : m227 45 5 = g4 := (gm227 45 5 rfl).trans km223_45_5
                  have km227_45_1 : m227 45 1 = p8 := (gm227 45 1 rfl).trans km223_45_1
                  have km227_45_6 : m227 45 6 = (p7 + 1) := (gm227 45 6 rfl).trans km223_45_6
                  have fm227_47 : m227 47 = F47 := (funext fun k => gm227 47 k rfl).trans fm223_47
                  obtain ⟨f228, fm227_48⟩ : ∃ f, m227 48 = f := ⟨_, rfl⟩
                  try rw [fm227_48] at po0_m227
                  try rw [fm227_48] at po1_m227
                  obtain ⟨f229, ef229⟩ : ∃ v, m227 45 8 = v := ⟨_, rfl⟩
                  have bf229 := ib_45_8 hIm227
                  rw [ef229] at bf229
                  rw [ef229] at po0_m227
                  rw [ef229] at po2_m227
                  show zW E (d) 14 126 [(2, 45), (0, g1), (0, i4), (0, p7)] [] m227 Q
                  have hAq := po0_m227
                  have hFa := po1_m227
                  refine zw_R zr_14_126 (by decide) zm_14 (v := (9, 0)) rfl ?_
                  rw [← hQ]; exact ⟨rfl, hIm227, hFm227, by rw [fm227_48, km227_45_6, ef229, km227_45_1]; exact zUn2 hv1lp12_11 hCr hAq hFa (by omega), by rw [fm227_48]; exact zFrm_t hFr hFa (by omega), by omega, by omega, by omega⟩
                · intro h235
                  refine zw_7 zr_8_9 rfl ?_
                  refine zw_46r (s := 48) zr_8_10 rfl rfl rfl rfl ?_
                  refine zw_7 zr_8_13 rfl ?_
                  refine zw_46i zr_8_14 km223_45_8 rfl rfl rfl ?_
                  refine zw_3 zr_8_17 rfl ?_
                  refine zw_49 (c := 48) (len := 50) zr_8_18 rfl rfl (by omega) (by omega) ?_
                  intro m236 em236
                  have hIm236 : zInv m236 := by rw [em236]; exact iu_48 hIm223 (by omega)
                  have hFm236 : zFr W_14 m0 m236 := by rw [em236]; exact hFm223.any rfl
                  have km236_45_7 : m236 45 7 = g0 := by rw [em236, zUp_ne (by omega)]; exact km223_45_7
                  have km236_45_5 : m236 45 5 = g4 := by rw [em236, zUp_ne (by omega)]; exact km223_45_5
                  have km236_45_1 : m236 45 1 = p8 := by rw [em236, zUp_ne (by omega)]; exact km223_45_1
                  have km236_45_8 : m236 45 8 = p9 := by rw [em236, zUp_ne (by omega)]; exact km223_45_8
                  have km236_45_6 : m236 45 6 = (p7 + 1) := by rw [em236, zUp_ne (by omega)]; exact km223_45_6
                  have fm236_47 : m236 47 = F47 := by rw [em236, zUp_fn (by decide)]; exact fm223_47
                  have fm236_48 : m236 48 = zPt f10 ((p9).toNat) ((-i4)) := by rw [em236]; exact (zUp_ff (m := m223)).trans (congrArg (fun q => zPt q ((p9).toNat) ((-i4))) fm223_48)
                  clear em236
                  refine zw_7 zr_8_19 rfl ?_
                  refine zw_43 zr_8_20 rfl ?_
                  refine zw_46i zr_8_21 km236_45_8 rfl rfl rfl ?_
                  refine zw_push zr_8_24 ?_
                  refine zw_16 zr_8_25 (by omega) ?_
                  refine zw_47 (c := 45) zr_8_26 rfl ⟨rfl, by decide, rfl⟩ ?_
                  intro m237 em237
                  have hIm237 : zInv m237 := by rw [em237]; exact hIm236.bd (r := 45) (k := 8) (lo := 0) (hi := 50) rfl (by omega) (by decide) (by decide) (by decide)
                  have hFm237 : zFr W_14 m0 m237 := by rw [em237]; exact hFm236.up rfl
                  have km237_45_7 : m237 45 7 = g0 := by rw [em237, zUp_ne (by omega)]; exact km236_45_7
                  have km237_45_5 : m237 45 5 = g4 := by rw [em237, zUp_ne (by omega)]; exact km236_45_5
                  have km237_45_1 : m237 45 1 = p8 := by rw [em237, zUp_ne (by omega)]; exact km236_45_1
                  have km237_45_6 : m237 45 6 = (p7 + 1) := by rw [em237, zUp_ne (by omega)]; exact km236_45_6
                  have km237_45_8 : m237 45 8 = (p9 + 1) := by rw [em237]; exact zUp_eq _ _ _ _
                  have fm237_47 : m237 47 = F47 := by rw [em237, zUp_fn (by decide)]; exact fm236_47
                  have fm237_48 : m237 48 = zPt f10 ((p9).toNat) ((-i4)) := by rw [em237, zUp_fn (by decide)]; exact fm236_48
                  clear em237
                  refine zw_R zr_8_29 (by decide) zm_8 (v := (9, 0)) rfl ?_
                  rw [← hQ1]
                  show zW E (d) 14 99 [(2, 45), (0, g1), (0, i4), (0, p7)] [] m237 Q
                  refine zw_42 zr_14_99 ?_
                  have hCr : zCr (chf F47 g4) g0 p7 g3 (zPt f10 ((p9).toNat) ((-i4))) (p7 + 1) (p9 + 1) p8 := by first | exact zCr_c po0_r176 (by omega) | exact zCr_c zz (by omega) | exact zCr_l hv1lp12_11 (by omega) rfl (by omega) | exact zCr_f hv1lp12_11 (by omega) (by omega) (by omega) (by omega) | (exfalso; omega)
                  have hFr : zFrm F48 (zPt f10 ((p9).toNat) ((-i4))) g3 := by first | exact hv3lp12_11 | exact zFrm_p hv3lp12_11 (by omega) | exact zFrm_t hv3lp12_11 po1_r176 (by omega) | exact zFrm_t hv3lp12_11 zz (by omega)
                  refine zw_7 zr_14_120 rfl ?_
                  refine zw_3 zr_14_121 rfl ?_
                  refine zw_3 zr_14_122 rfl ?_
                  refine zw_C zr_14_123 (Or.inl rfl) zm_11 rfl rfl ⟨Nat.le_of_ble_eq_true rfl, Nat.le_of_ble_eq_true rfl, Nat.le_of_ble_eq_true rfl, rfl, by decide⟩ (by omega) (th_11 (d := d - 1) (by omega) hIm237 (a0 := g1) (a1 := p7) (g0 := (p9 + 1))  (F47 := F47) (F48 := zPt f10 ((p9).toNat) ((-i4))) km237_45_8 fm237_47 fm237_48 (by omega) (by omega) (by omega)) ?_
                  rintro _ m240 ⟨rfl, hIm240, gm240, po0_m240, po1_m240, po2_m240⟩
                  have hFm240 : zFr W_14 m0 m240 := hFm237.trans gm240 rfl
                  have km240_45_7 : m240 45 7 = g0 := (gm240 45 7 rfl).trans km237_45_7
                  have km240_45_5 : m240 45 5 = g4 := (gm240 45 5 rfl).trans km237_45_5
                  have km240_45_1 : m240 45 1 = p8 := (gm240 45 1 rfl).trans km237_45_1
                  have km240_45_6 : m240 45 6 = (p7 + 1) := (gm240 45 6 rfl).trans km237_45_6
                  have fm240_47 : m240 47 = F47 := (funext fun k => gm240 47 k rfl).trans fm237_47
                  obtain ⟨f241, fm240_48⟩ : ∃ f, m240 48 = f := ⟨_, rfl⟩
                  try rw [fm240_48] at po0_m240
                  try rw [fm240_48] at po1_m240
                  obtain ⟨f242, ef242⟩ : ∃ v, m240 45 8 = v := ⟨_, rfl⟩
                  have bf242 := ib_45_8 hIm240
                  rw [ef242] at bf242
                  rw [ef242] at po0_m240
                  rw [ef242] at po2_m240
                  show zW E (d) 14 126 [(2, 45), (0, g1), (0, i4), (0, p7)] [] m240 Q
                  have hAq := po0_m240
                  have hFa := po1_m240
                  refine zw_R zr_14_126 (by decide) zm_14 (v := (9, 0)) rfl ?_
                  rw [← hQ]; exact ⟨rfl, hIm240, hFm240, by rw [fm240_48, km240_45_6, ef242, km240_45_1]; exact zUn2 hv1lp12_11 hCr hAq hFa (by omega), by rw [fm240_48]; exact zFrm_t hFr hFa (by omega), by omega, by omega, by omega⟩
            · intro h248
              refine zw_3 zr_14_62 rfl ?_
              refine zw_push zr_14_63 ?_
              refine zw_41_2 zr_14_65 ?_ ?_
              · intro h249
                refine zw_3 zr_14_75 rfl ?_
                refine zw_C zr_14_76 (Or.inr rfl) zm_10 rfl rfl ⟨Nat.le_of_ble_eq_true rfl, Nat.le_of_ble_eq_true rfl, Nat.le_of_ble_eq_true rfl, rfl, by decide⟩ (by omega) (th_10 (d := d - 1) (by omega) hIm6 (a0 := i4)      (by omega) ) ?_
                rintro _ _ ⟨r250, rfl, hr250a, hr250b, rfl, po0_r250, po1_r250⟩
                show zW E (d) 14 79 [(2, 45), (0, g1), (0, i4), (0, p7)] [(0, r250)] m6 Q
                refine zw_push zr_14_79 ?_
                refine zw_41_1 zr_14_80 ?_ ?_
                · intro h251
                  refine zw_3 zr_14_102 rfl ?_
                  refine zw_push zr_14_103 ?_
                  refine zw_41_4 zr_14_105 ?_ ?_
                  · intro h252
                    refine zw_7 zr_14_115 rfl ?_
                    refine zw_push zr_14_116 ?_
                    refine zw_C zr_14_117 (Or.inl rfl) zm_5 rfl rfl ⟨Nat.le_of_ble_eq_true rfl, Nat.le_of_ble_eq_true rfl, Nat.le_of_ble_eq_true rfl, rfl, by decide⟩ (by omega) (P := (fun v m' => zW E (d) 14 120 [(2, 45), (0, g1), (0, i4), (0, p7)] (if v.1 = 9 then [] else v :: []) m' Q)) ?_ (fun _ _ h => h)
                    generalize hQ1 : (fun v m' => zW E (d) 14 120 [(2, 45), (0, g1), (0, i4), (0, p7)] (if v.1 = 9 then [] else v :: []) m' Q) = Q1
                    show zW E (d - 1) 5 0 [(2, 45), (0, 1)] [] m6 Q1
                    refine zw_7 zr_5_0 rfl ?_
                    refine zw_46i zr_5_1 km6_45_1 rfl rfl rfl ?_
                    refine zw_push zr_5_4 ?_
                    refine zw_41_4 zr_5_5 ?_ ?_
                    · intro h253
                      refine zw_R zr_5_21 (by decide) zm_5 (v := (9, 0)) rfl ?_
                      rw [← hQ1]
                      show zW E (d) 14 120 [(2, 45), (0, g1), (0, i4), (0, p7)] [] m6 Q
                      have hCr : zCr (chf F47 g4) g0 p7 g3 f10 p7 p9 p8 := by first | exact zCr_c po0_r250 (by omega) | exact zCr_c zz (by omega) | exact zCr_l hv1lp12_11 (by omega) rfl (by omega) | exact zCr_f hv1lp12_11 (by omega) (by omega) (by omega) (by omega) | (exfalso; omega)
                      have hFr : zFrm F48 f10 g3 := by first | exact hv3lp12_11 | exact zFrm_p hv3lp12_11 (by omega) | exact zFrm_t hv3lp12_11 po1_r250 (by omega) | exact zFrm_t hv3lp12_11 zz (by omega)
                      refine zw_7 zr_14_120 rfl ?_
                      refine zw_3 zr_14_121 rfl ?_
                      refine zw_3 zr_14_122 rfl ?_
                      refine zw_C zr_14_123 (Or.inl rfl) zm_11 rfl rfl ⟨Nat.le_of_ble_eq_true rfl, Nat.le_of_ble_eq_true rfl, Nat.le_of_ble_eq_true rfl, rfl, by decide⟩ (by omega) (th_11 (d := d - 1) (by omega) hIm6 (a0 := g1) (a1 := p7) (g0 := p9)  (F47 := F47) (F48 := f10) km6_45_8 fm6_47 fm6_48 (by omega) (by omega) (by omega)) ?_
                      rintro _ m256 ⟨rfl, hIm256, gm256, po0_m256, po1_m256, po2_m256⟩
                      have hFm256 : zFr W_14 m0 m256 := hFm6.trans gm256 rfl
                      have km256_45_7 : m256 45 7 = g0 := (gm256 45 7 rfl).trans km6_45_7
                      have km256_45_5 : m256 45 5 = g4 := (gm256 45 5 rfl).trans km6_45_5
                      have km256_45_6 : m256 45 6 = p7 := (gm256 45 6 rfl).trans km6_45_6
                      have km256_45_1 : m256 45 1 = p8 := (gm256 45 1 rfl).trans km6_45_1
                      have fm256_47 : m256 47 = F47 := (funext fun k => gm256 47 k rfl).trans fm6_47
                      obtain ⟨f257, fm256_48⟩ : ∃ f, m256 48 = f := ⟨_, rfl⟩
                      try rw [fm256_48] at po0_m256
                      try rw [fm256_48] at po1_m256
                      obtain ⟨f258, ef258⟩ : ∃ v, m256 45 8 = v := ⟨_, rfl⟩
                      have bf258 := ib_45_8 hIm256
                      rw [ef258] at bf258
                      rw [ef258] at po0_m256
                      rw [ef258] at po2_m256
                      show zW E (d) 14 126 [(2, 45), (0, g1), (0, i4), (0, p7)] [] m256 Q
                      have hAq := po0_m256
                      have hFa := po1_m256
                      refine zw_R zr_14_126 (by decide) zm_14 (v := (9, 0)) rfl ?_
                      rw [← hQ]; exact ⟨rfl, hIm256, hFm256, by rw [fm256_48, km256_45_6, ef258, km256_45_1]; exact zUn2 hv1lp12_11 hCr hAq hFa (by omega), by rw [fm256_48]; exact zFrm_t hFr hFa (by omega), by omega, by omega, by omega⟩
                    · intro h264
                      refine zw_7 zr_5_8 rfl ?_
                      refine zw_7 zr_5_9 rfl ?_
                      refine zw_46i zr_5_10 km6_45_6 rfl rfl rfl ?_
                      refine zw_push zr_5_13 ?_
                      refine zw_18 zr_5_15 (by omega) ?_
                      refine zw_3 zr_5_16 rfl ?_
                      refine zw_16 zr_5_17 (by omega) ?_
                      refine zw_47 (c := 45) zr_5_18 rfl ⟨rfl, by decide, rfl⟩ ?_
                      intro m265 em265
                      have hIm265 : zInv m265 := by rw [em265]; exact hIm6.any (by omega) rfl (by decide) (by decide)
                      have hFm265 : zFr W_14 m0 m265 := by rw [em265]; exact hFm6.up rfl
                      have km265_45_7 : m265 45 7 = g0 := by rw [em265, zUp_ne (by omega)]; exact km6_45_7
                      have km265_45_5 : m265 45 5 = g4 := by rw [em265, zUp_ne (by omega)]; exact km6_45_5
                      have km265_45_6 : m265 45 6 = p7 := by rw [em265, zUp_ne (by omega)]; exact km6_45_6
                      have km265_45_8 : m265 45 8 = p9 := by rw [em265, zUp_ne (by omega)]; exact km6_45_8
                      have km265_45_1 : m265 45 1 = ((p7 * 10) + 1) := by rw [em265]; exact zUp_eq _ _ _ _
                      have fm265_47 : m265 47 = F47 := by rw [em265, zUp_fn (by decide)]; exact fm6_47
                      have fm265_48 : m265 48 = f10 := by rw [em265, zUp_fn (by decide)]; exact fm6_48
                      clear em265
                      refine zw_R zr_5_21 (by decide) zm_5 (v := (9, 0)) rfl ?_
                      rw [← hQ1]
                      show zW E (d) 14 120 [(2, 45), (0, g1), (0, i4), (0, p7)] [] m265 Q
                      have hCr : zCr (chf F47 g4) g0 p7 g3 f10 p7 p9 ((p7 * 10) + 1) := by first | exact zCr_c po0_r250 (by omega) | exact zCr_c zz (by omega) | exact zCr_l hv1lp12_11 (by omega) rfl (by omega) | exact zCr_f hv1lp12_11 (by omega) (by omega) (by omega) (by omega) | (exfalso; omega)
                      have hFr : zFrm F48 f10 g3 := by first | exact hv3lp12_11 | exact zFrm_p hv3lp12_11 (by omega) | exact zFrm_t hv3lp12_11 po1_r250 (by omega) | exact zFrm_t hv3lp12_11 zz (by omega)
                      refine zw_7 zr_14_120 rfl ?_
                      refine zw_3 zr_14_121 rfl ?_
                      refine zw_3 zr_14_122 rfl ?_
                      refine zw_C zr_14_123 (Or.inl rfl) zm_11 rfl rfl ⟨Nat.le_of_ble_eq_true rfl, Nat.le_of_ble_eq_true rfl, Nat.le_of_ble_eq_true rfl, rfl, by decide⟩ (by omega) (th_11 (d := d - 1) (by omega) hIm265 (a0 := g1) (a1 := p7) (g0 := p9)  (F47 := F47) (F48 := f10) km265_45_8 fm265_47 fm265_48 (by omega) (by omega) (by omega)) ?_
                      rintro _ m268 ⟨rfl, hIm268, gm268, po0_m268, po1_m268, po2_m268⟩
                      have hFm268 : zFr W_14 m0 m268 := hFm265.trans gm268 rfl
                      have km268_45_7 : m268 45 7 = g0 := (gm268 45 7 rfl).trans km265_45_7
                      have km268_45_5 : m268 45 5 = g4 := (gm268 45 5 rfl).trans km265_45_5
                      have km268_45_6 : m268 45 6 = p7 := (gm268 45 6 rfl).trans km265_45_6
                      have km268_45_1 : m268 45 1 = ((p7 * 10) + 1) := (gm268 45 1 rfl).trans km265_45_1
                      have fm268_47 : m268 47 = F47 := (funext fun k => gm268 47 k rfl).trans fm265_47
                      obtain ⟨f269, fm268_48⟩ : ∃ f, m268 48 = f := ⟨_, rfl⟩
                      try rw [fm268_48] at po0_m268
                      try rw [fm268_48] at po1_m268
                      obtain ⟨f270, ef270⟩ : ∃ v, m268 45 8 = v := ⟨_, rfl⟩
                      have bf270 := ib_45_8 hIm268
                      rw [ef270] at bf270
                      rw [ef270] at po0_m268
                      rw [ef270] at po2_m268
                      show zW E (d) 14 126 [(2, 45), (0, g1), (0, i4), (0, p7)] [] m268 Q
                      have hAq := po0_m268
                      have hFa := po1_m268
                      refine zw_R zr_14_126 (by decide) zm_14 (v := (9, 0)) rfl ?_
                      rw [← hQ]; exact ⟨rfl, hIm268, hFm268, by rw [fm268_48, km268_45_6, ef270, km268_45_1]; exact zUn2 hv1lp12_11 hCr hAq hFa (by omega), by rw [fm268_48]; exact zFrm_t hFr hFa (by omega), by omega, by omega, by omega⟩
                  · intro h276; omega
                · intro h277
                  have hL : i4 ≠ -1 := by omega
                  have hM : p7 < g4 := by omega
                  refine zw_7 zr_14_83 rfl ?_
                  refine zw_43 zr_14_84 rfl ?_
                  refine zw_46i zr_14_85 km6_45_6 rfl rfl rfl ?_
                  refine zw_push zr_14_88 ?_
                  refine zw_16 zr_14_89 (by omega) ?_
                  refine zw_47 (c := 45) zr_14_90 rfl ⟨rfl, by decide, rfl⟩ ?_
                  intro m280 em280
                  have hIm280 : zInv m280 := by rw [em280]; exact hIm6.bd (r := 45) (k := 6) (lo := 0) (hi := 50) rfl (by omega) (by decide) (by decide) (by decide)
                  have hFm280 : zFr W_14 m0 m280 := by rw [em280]; exact hFm6.up rfl
                  have km280_45_7 : m280 45 7 = g0 := by rw [em280, zUp_ne (by omega)]; exact km6_45_7
                  have km280_45_5 : m280 45 5 = g4 := by rw [em280, zUp_ne (by omega)]; exact km6_45_5
                  have km280_45_1 : m280 45 1 = p8 := by rw [em280, zUp_ne (by omega)]; exact km6_45_1
                  have km280_45_8 : m280 45 8 = p9 := by rw [em280, zUp_ne (by omega)]; exact km6_45_8
                  have km280_45_6 : m280 45 6 = (p7 + 1) := by rw [em280]; exact zUp_eq _ _ _ _
                  have fm280_47 : m280 47 = F47 := by rw [em280, zUp_fn (by decide)]; exact fm6_47
                  have fm280_48 : m280 48 = f10 := by rw [em280, zUp_fn (by decide)]; exact fm6_48
                  clear em280
                  refine zw_7 zr_14_93 rfl ?_
                  refine zw_3 zr_14_94 rfl ?_
                  refine zw_38 zr_14_95 (by omega) ?_
                  refine zw_C zr_14_96 (Or.inl rfl) zm_8 rfl rfl ⟨Nat.le_of_ble_eq_true rfl, Nat.le_of_ble_eq_true rfl, Nat.le_of_ble_eq_true rfl, rfl, by decide⟩ (by omega) (P := (fun v m' => zW E (d) 14 99 [(2, 45), (0, g1), (0, i4), (0, p7)] (if v.1 = 9 then [] else v :: []) m' Q)) ?_ (fun _ _ h => h)
                  generalize hQ1 : (fun v m' => zW E (d) 14 99 [(2, 45), (0, g1), (0, i4), (0, p7)] (if v.1 = 9 then [] else v :: []) m' Q) = Q1
                  show zW E (d - 1) 8 0 [(2, 45), (0, (-i4))] [] m280 Q1
                  refine zw_7 zr_8_0 rfl ?_
                  refine zw_46i zr_8_1 km280_45_8 rfl rfl rfl ?_
                  refine zw_push zr_8_4 ?_
                  refine zw_41_3 zr_8_6 ?_ ?_
                  · intro h281
                    refine zw_R zr_8_29 (by decide) zm_8 (v := (9, 0)) rfl ?_
                    rw [← hQ1]
                    show zW E (d) 14 99 [(2, 45), (0, g1), (0, i4), (0, p7)] [] m280 Q
                    refine zw_42 zr_14_99 ?_
                    have hCr : zCr (chf F47 g4) g0 p7 g3 f10 (p7 + 1) p9 p8 := by first | exact zCr_c po0_r250 (by omega) | exact zCr_c zz (by omega) | exact zCr_l hv1lp12_11 (by omega) rfl (by omega) | exact zCr_f hv1lp12_11 (by omega) (by omega) (by omega) (by omega) | (exfalso; omega)
                    have hFr : zFrm F48 f10 g3 := by first | exact hv3lp12_11 | exact zFrm_p hv3lp12_11 (by omega) | exact zFrm_t hv3lp12_11 po1_r250 (by omega) | exact zFrm_t hv3lp12_11 zz (by omega)
                    refine zw_7 zr_14_120 rfl ?_
                    refine zw_3 zr_14_121 rfl ?_
                    refine zw_3 zr_14_122 rfl ?_
                    refine zw_C zr_14_123 (Or.inl rfl) zm_11 rfl rfl ⟨Nat.le_of_ble_eq_true rfl, Nat.le_of_ble_eq_true rfl, Nat.le_of_ble_eq_true rfl, rfl, by decide⟩ (by omega) (th_11 (d := d - 1) (by omega) hIm280 (a0 := g1) (a1 := p7) (g0 := p9)  (F47 := F47) (F48 := f10) km280_45_8 fm280_47 fm280_48 (by omega) (by omega) (by omega)) ?_
                    rintro _ m284 ⟨rfl, hIm284, gm284, po0_m284, po1_m284, po2_m284⟩
                    have hFm284 : zFr W_14 m0 m284 := hFm280.trans gm284 rfl
                    have km284_45_7 : m284 45 7 = g0 := (gm284 45 7 rfl).trans km280_45_7
                    have km284_45_5 : m284 45 5 = g4 := (gm284 45 5 rfl).trans km280_45_5
                    have km284_45_1 : m284 45 1 = p8 := (gm284 45 1 rfl).trans km280_45_1
                    have km284_45_6 : m284 45 6 = (p7 + 1) := (gm284 45 6 rfl).trans km280_45_6
                    have fm284_47 : m284 47 = F47 := (funext fun k => gm284 47 k rfl).trans fm280_47
                    obtain ⟨f285, fm284_48⟩ : ∃ f, m284 48 = f := ⟨_, rfl⟩
                    try rw [fm284_48] at po0_m284
                    try rw [fm284_48] at po1_m284
                    obtain ⟨f286, ef286⟩ : ∃ v, m284 45 8 = v := ⟨_, rfl⟩
                    have bf286 := ib_45_8 hIm284
                    rw [ef286] at bf286
                    rw [ef286] at po0_m284
                    rw [ef286] at po2_m284
                    show zW E (d) 14 126 [(2, 45), (0, g1), (0, i4), (0, p7)] [] m284 Q
                    have hAq := po0_m284
                    have hFa := po1_m284
                    refine zw_R zr_14_126 (by decide) zm_14 (v := (9, 0)) rfl ?_
                    rw [← hQ]; exact ⟨rfl, hIm284, hFm284, by rw [fm284_48, km284_45_6, ef286, km284_45_1]; exact zUn2 hv1lp12_11 hCr hAq hFa (by omega), by rw [fm284_48]; exact zFrm_t hFr hFa (by omega), by omega, by omega, by omega⟩
                  · intro h292
                    refine zw_7 zr_8_9 rfl ?_
                    refine zw_46r (s := 48) zr_8_10 rfl rfl rfl rfl ?_
                    refine zw_7 zr_8_13 rfl ?_
                    refine zw_46i zr_8_14 km280_45_8 rfl rfl rfl ?_
                    refine zw_3 zr_8_17 rfl ?_
                    refine zw_49 (c := 48) (len := 50) zr_8_18 rfl rfl (by omega) (by omega) ?_
                    intro m293 em293
                    have hIm293 : zInv m293 := by rw [em293]; exact iu_48 hIm280 (by omega)
                    have hFm293 : zFr W_14 m0 m293 := by rw [em293]; exact hFm280.any rfl
                    have km293_45_7 : m293 45 7 = g0 := by rw [em293, zUp_ne (by omega)]; exact km280_45_7
                    have km293_45_5 : m293 45 5 = g4 := by rw [em293, zUp_ne (by omega)]; exact km280_45_5
                    have km293_45_1 : m293 45 1 = p8 := by rw [em293, zUp_ne (by omega)]; exact km280_45_1
                    have km293_45_8 : m293 45 8 = p9 := by rw [em293, zUp_ne (by omega)]; exact km280_45_8
                    have km293_45_6 : m293 45 6 = (p7 + 1) := by rw [em293, zUp_ne (by omega)]; exact km280_45_6
                    have fm293_47 : m293 47 = F47 := by rw [em293, zUp_fn (by decide)]; exact fm280_47
                    have fm293_48 : m293 48 = zPt f10 ((p9).toNat) ((-i4)) := by rw [em293]; exact (zUp_ff (m := m280)).trans (congrArg (fun q => zPt q ((p9).toNat) ((-i4))) fm280_48)
                    clear em293
                    refine zw_7 zr_8_19 rfl ?_
                    refine zw_43 zr_8_20 rfl ?_
                    refine zw_46i zr_8_21 km293_45_8 rfl rfl rfl ?_
                    refine zw_push zr_8_24 ?_
                    refine zw_16 zr_8_25 (by omega) ?_
                    refine zw_47 (c := 45) zr_8_26 rfl ⟨rfl, by decide, rfl⟩ ?_
                    intro m294 em294
                    have hIm294 : zInv m294 := by rw [em294]; exact hIm293.bd (r := 45) (k := 8) (lo := 0) (hi := 50) rfl (by omega) (by decide) (by decide) (by decide)
                    have hFm294 : zFr W_14 m0 m294 := by rw [em294]; exact hFm293.up rfl
                    have km294_45_7 : m294 45 7 = g0 := by rw [em294, zUp_ne (by omega)]; exact km293_45_7
                    have km294_45_5 : m294 45 5 = g4 := by rw [em294, zUp_ne (by omega)]; exact km293_45_5
                    have km294_45_1 : m294 45 1 = p8 := by rw [em294, zUp_ne (by omega)]; exact km293_45_1
                    have km294_45_6 : m294 45 6 = (p7 + 1) := by rw [em294, zUp_ne (by omega)]; exact km293_45_6
                    have km294_45_8 : m294 45 8 = (p9 + 1) := by rw [em294]; exact zUp_eq _ _ _ _
                    have fm294_47 : m294 47 = F47 := by rw [em294, zUp_fn (by decide)]; exact fm293_47
                    have fm294_48 : m294 48 = zPt f10 ((p9).toNat) ((-i4)) := by rw [em294, zUp_fn (by decide)]; exact fm293_48
                    clear em294
                    refine zw_R zr_8_29 (by decide) zm_8 (v := (9, 0)) rfl ?_
                    rw [← hQ1]
                    show zW E (d) 14 99 [(2, 45), (0, g1), (0, i4), (0, p7)] [] m294 Q
                    refine zw_42 zr_14_99 ?_
                    have hCr : zCr (chf F47 g4) g0 p7 g3 (zPt f10 ((p9).toNat) ((-i4))) (p7 + 1) (p9 + 1) p8 := by first | exact zCr_c po0_r250 (by omega) | exact zCr_c zz (by omega) | exact zCr_l hv1lp12_11 (by omega) rfl (by omega) | exact zCr_f hv1lp12_11 (by omega) (by omega) (by omega) (by omega) | (exfalso; omega)
                    have hFr : zFrm F48 (zPt f10 ((p9).toNat) ((-i4))) g3 := by first | exact hv3lp12_11 | exact zFrm_p hv3lp12_11 (by omega) | exact zFrm_t hv3lp12_11 po1_r250 (by omega) | exact zFrm_t hv3lp12_11 zz (by omega)
                    refine zw_7 zr_14_120 rfl ?_
                    refine zw_3 zr_14_121 rfl ?_
                    refine zw_3 zr_14_122 rfl ?_
                    refine zw_C zr_14_123 (Or.inl rfl) zm_11 rfl rfl ⟨Nat.le_of_ble_eq_true rfl, Nat.le_of_ble_eq_true rfl, Nat.le_of_ble_eq_true rfl, rfl, by decide⟩ (by omega) (th_11 (d := d - 1) (by omega) hIm294 (a0 := g1) (a1 := p7) (g0 := (p9 + 1))  (F47 := F47) (F48 := zPt f10 ((p9).toNat) ((-i4))) km294_45_8 fm294_47 fm294_48 (by omega) (by omega) (by omega)) ?_
                    rintro _ m297 ⟨rfl, hIm297, gm297, po0_m297, po1_m297, po2_m297⟩
                    have hFm297 : zFr W_14 m0 m297 := hFm294.trans gm297 rfl
                    have km297_45_7 : m297 45 7 = g0 := (gm297 45 7 rfl).trans km294_45_7
                    have km297_45_5 : m297 45 5 = g4 := (gm297 45 5 rfl).trans km294_45_5
                    have km297_45_1 : m297 45 1 = p8 := (gm297 45 1 rfl).trans km294_45_1
                    have km297_45_6 : m297 45 6 = (p7 + 1) := (gm297 45 6 rfl).trans km294_45_6
                    have fm297_47 : m297 47 = F47 := (funext fun k => gm297 47 k rfl).trans fm294_47
                    obtain ⟨f298, fm297_48⟩ : ∃ f, m297 48 = f := ⟨_, rfl⟩
                    try rw [fm297_48] at po0_m297
                    try rw [fm297_48] at po1_m297
                    obtain ⟨f299, ef299⟩ : ∃ v, m297 45 8 = v := ⟨_, rfl⟩
                    have bf299 := ib_45_8 hIm297
                    rw [ef299] at bf299
                    rw [ef299] at po0_m297
                    rw [ef299] at po2_m297
                    show zW E (d) 14 126 [(2, 45), (0, g1), (0, i4), (0, p7)] [] m297 Q
                    have hAq := po0_m297
                    have hFa := po1_m297
                    refine zw_R zr_14_126 (by decide) zm_14 (v := (9, 0)) rfl ?_
                    rw [← hQ]; exact ⟨rfl, hIm297, hFm297, by rw [fm297_48, km297_45_6, ef299, km297_45_1]; exact zUn2 hv1lp12_11 hCr hAq hFa (by omega), by rw [fm297_48]; exact zFrm_t hFr hFa (by omega), by omega, by omega, by omega⟩
              · intro h305
                have hM : p7 < g4 := by omega
                refine zw_7 zr_14_68 rfl ?_
                refine zw_C zr_14_69 (Or.inl rfl) zm_9 rfl rfl ⟨Nat.le_of_ble_eq_true rfl, Nat.le_of_ble_eq_true rfl, Nat.le_of_ble_eq_true rfl, rfl, by decide⟩ (by omega) (th_9 (d := d - 1) (by omega) hIm6  (g0 := g0) (g1 := p7) (g2 := p8) (g3 := p9) (g4 := g4)  (F47 := F47) (F48 := f10) km6_45_7 km6_45_6 km6_45_1 km6_45_8 km6_45_5 fm6_47 fm6_48  (by omega) (by omega) (zAh_c hv1lp12_11 (by omega))) ?_
                rintro _ m308 ⟨rfl, hIm308, gm308, po0_m308, po1_m308, po2_m308, po3_m308⟩
                have hFm308 : zFr W_14 m0 m308 := hFm6.trans gm308 rfl
                have km308_45_7 : m308 45 7 = g0 := (gm308 45 7 rfl).trans km6_45_7
                have km308_45_5 : m308 45 5 = g4 := (gm308 45 5 rfl).trans km6_45_5
                have fm308_47 : m308 47 = F47 := (funext fun k => gm308 47 k rfl).trans fm6_47
                obtain ⟨f309, fm308_48⟩ : ∃ f, m308 48 = f := ⟨_, rfl⟩
                try rw [fm308_48] at po0_m308
                try rw [fm308_48] at po1_m308
                obtain ⟨f310, ef310⟩ : ∃ v, m308 45 1 = v := ⟨_, rfl⟩
                have bf310 := hIm308.fi (c := 45) (k := 1) rfl
                rw [ef310] at bf310
                rw [ef310] at po0_m308
                rw [ef310] at po2_m308
                obtain ⟨f311, ef311⟩ : ∃ v, m308 45 6 = v := ⟨_, rfl⟩
                have bf311 := ib_45_6 hIm308
                rw [ef311] at bf311
                rw [ef311] at po0_m308
                rw [ef311] at po2_m308
                rw [ef311] at po3_m308
                obtain ⟨f312, ef312⟩ : ∃ v, m308 45 8 = v := ⟨_, rfl⟩
                have bf312 := ib_45_8 hIm308
                rw [ef312] at bf312
                rw [ef312] at po0_m308
                rw [ef312] at po2_m308
                rw [ef312] at po3_m308
                show zW E (d) 14 72 [(2, 45), (0, g1), (0, i4), (0, p7)] [] m308 Q
                refine zw_42 zr_14_72 ?_
                have hCr : zCr (chf F47 g4) g0 p7 g3 f309 f311 f312 f310 := by first | exact zCr_c po0_m308 (by omega) | exact zCr_c zz (by omega) | exact zCr_l hv1lp12_11 (by omega) rfl (by omega) | exact zCr_f hv1lp12_11 (by omega) (by omega) (by omega) (by omega) | (exfalso; omega)
                have hFr : zFrm F48 f309 g3 := by first | exact hv3lp12_11 | exact zFrm_p hv3lp12_11 (by omega) | exact zFrm_t hv3lp12_11 po1_m308 (by omega) | exact zFrm_t hv3lp12_11 zz (by omega)
                refine zw_7 zr_14_120 rfl ?_
                refine zw_3 zr_14_121 rfl ?_
                refine zw_3 zr_14_122 rfl ?_
                refine zw_C zr_14_123 (Or.inl rfl) zm_11 rfl rfl ⟨Nat.le_of_ble_eq_true rfl, Nat.le_of_ble_eq_true rfl, Nat.le_of_ble_eq_true rfl, rfl, by decide⟩ (by omega) (th_11 (d := d - 1) (by omega) hIm308 (a0 := g1) (a1 := p7) (g0 := f312)  (F47 := F47) (F48 := f309) ef312 fm308_47 fm308_48 (by omega) (by omega) (by omega)) ?_
                rintro _ m315 ⟨rfl, hIm315, gm315, po0_m315, po1_m315, po2_m315⟩
                have hFm315 : zFr W_14 m0 m315 := hFm308.trans gm315 rfl
                have km315_45_7 : m315 45 7 = g0 := (gm315 45 7 rfl).trans km308_45_7
                have km315_45_5 : m315 45 5 = g4 := (gm315 45 5 rfl).trans km308_45_5
                have km315_45_1 : m315 45 1 = f310 := (gm315 45 1 rfl).trans ef310
                have km315_45_6 : m315 45 6 = f311 := (gm315 45 6 rfl).trans ef311
                have fm315_47 : m315 47 = F47 := (funext fun k => gm315 47 k rfl).trans fm308_47
                obtain ⟨f316, fm315_48⟩ : ∃ f, m315 48 = f := ⟨_, rfl⟩
                try rw [fm315_48] at po0_m315
                try rw [fm315_48] at po1_m315
                obtain ⟨f317, ef317⟩ : ∃ v, m315 45 8 = v := ⟨_, rfl⟩
                have bf317 := ib_45_8 hIm315
                rw [ef317] at bf317
                rw [ef317] at po0_m315
                rw [ef317] at po2_m315
                show zW E (d) 14 126 [(2, 45), (0, g1), (0, i4), (0, p7)] [] m315 Q
                have hAq := po0_m315
                have hFa := po1_m315
                refine zw_R zr_14_126 (by decide) zm_14 (v := (9, 0)) rfl ?_
                rw [← hQ]; exact ⟨rfl, hIm315, hFm315, by rw [fm315_48, km315_45_6, ef317, km315_45_1]; exact zUn2 hv1lp12_11 hCr hAq hFa (by omega), by rw [fm315_48]; exact zFrm_t hFr hFa (by omega), by omega, by omega, by omega⟩
          · intro h323
            refine zw_7 zr_14_30 rfl ?_
            refine zw_43 zr_14_31 rfl ?_
            refine zw_46i zr_14_32 km6_45_6 rfl rfl rfl ?_
            refine zw_push zr_14_35 ?_
            refine zw_16 zr_14_36 (by omega) ?_
            refine zw_47 (c := 45) zr_14_37 rfl ⟨rfl, by decide, rfl⟩ ?_
            intro m324 em324
            have hIm324 : zInv m324 := by rw [em324]; exact hIm6.bd (r := 45) (k := 6) (lo := 0) (hi := 50) rfl (by omega) (by decide) (by decide) (by decide)
            have hFm324 : zFr W_14 m0 m324 := by rw [em324]; exact hFm6.up rfl
            have km324_45_7 : m324 45 7 = g0 := by rw [em324, zUp_ne (by omega)]; exact km6_45_7
            have km324_45_5 : m324 45 5 = g4 := by rw [em324, zUp_ne (by omega)]; exact km6_45_5
            have km324_45_1 : m324 45 1 = p8 := by rw [em324, zUp_ne (by omega)]; exact km6_45_1
            have km324_45_8 : m324 45 8 = p9 := by rw [em324, zUp_ne (by omega)]; exact km6_45_8
            have km324_45_6 : m324 45 6 = (p7 + 1) := by rw [em324]; exact zUp_eq _ _ _ _
            have fm324_47 : m324 47 = F47 := by rw [em324, zUp_fn (by decide)]; exact fm6_47
            have fm324_48 : m324 48 = f10 := by rw [em324, zUp_fn (by decide)]; exact fm6_48
            clear em324
            refine zw_7 zr_14_40 rfl ?_
            refine zw_C zr_14_41 (Or.inl rfl) zm_6 rfl rfl ⟨Nat.le_of_ble_eq_true rfl, Nat.le_of_ble_eq_true rfl, Nat.le_of_ble_eq_true rfl, rfl, by decide⟩ (by omega) (th_6 (d := d - 1) (by omega) hIm324  (g0 := (p7 + 1)) (g1 := p8) (g2 := g4)  (F47 := F47) km324_45_6 km324_45_1 km324_45_5 fm324_47  (by omega)) ?_
            rintro _ m325 ⟨r326, rfl, hr326a, hr326b, hIm325, gm325, po0_r326, po1_r326, po2_r326, po3_r326, po4_r326⟩
            have hFm325 : zFr W_14 m0 m325 := hFm324.trans gm325 rfl
            have km325_45_7 : m325 45 7 = g0 := (gm325 45 7 rfl).trans km324_45_7
            have km325_45_5 : m325 45 5 = g4 := (gm325 45 5 rfl).trans km324_45_5
            have km325_45_1 : m325 45 1 = p8 := (gm325 45 1 rfl).trans km324_45_1
            have km325_45_8 : m325 45 8 = p9 := (gm325 45 8 rfl).trans km324_45_8
            have fm325_47 : m325 47 = F47 := (funext fun k => gm325 47 k rfl).trans fm324_47
            have fm325_48 : m325 48 = f10 := (funext fun k => gm325 48 k rfl).trans fm324_48
            obtain ⟨f327, ef327⟩ : ∃ v, m325 45 6 = v := ⟨_, rfl⟩
            have bf327 := ib_45_6 hIm325
            rw [ef327] at bf327
            rw [ef327] at po0_r326
            rw [ef327] at po1_r326
            rw [ef327] at po2_r326
            rw [ef327] at po3_r326
            show zW E (d) 14 44 [(2, 45), (0, g1), (0, i4), (0, i5)] [(0, r326)] m325 Q
            clear po0_r326 po4_r326
            refine zw_9 (L' := [(2, 45), (0, g1), (0, r326), (0, i5)]) zr_14_44 (Nat.le_of_ble_eq_true rfl) rfl ?_
            refine zw_15 (c := 1) (L' := [(2, 45), (0, g1), (0, r326), (0, (i5 + 1))]) zr_14_45 rfl (by decide) (by omega) rfl ?_
            refine zw_42 zr_14_48 ?_
            exact zw_less (L := [(2, 45), (0, g1), (0, r326), (0, (i5 + 1))]) ⟨Or.inr rfl, Or.inr rfl, Or.inr rfl, Or.inr rfl, trivial⟩ (ihlp12_11 (r326) ((i5 + 1)) (f327) (p8) (p9) (f10) m325 hIm325 hFm325  km325_45_7 km325_45_5 ef327 km325_45_1 km325_45_8 fm325_47 fm325_48 (by omega) (by omega) (by omega) (by omega) (by omega) (by omega) (by omega) (by omega) (by omega) (by omega) (by omega) (zAh_s hv1lp12_11 (by omega) po1_r326 (by omega) (by omega)) (by omega) (hv3lp12_11) (by omega))
  exact lp12_11 _ (r2) (0) (f3) (g2) (g3) (F48) m1 hIm1 hFm1  km1_45_7 km1_45_5 ef3 km1_45_1 km1_45_8 fm1_47 fm1_48 (by omega) (by omega) (by omega) (by omega) (by omega) (by omega) (by omega) (by omega) (by omega) (by omega) (by omega) (zAh_0 po1_r2 (by omega) (by omega)) (by omega) (zFrm_r) (Nat.lt_succ_self _)
set_option maxHeartbeats 8000000 in
theorem tr_12 {E : zE} {d : Nat} (ih13 : rs_13 E (d - 1)) (ih14 : rs_14 E (d - 1)) (ih12 : rs_12 E (d - 1)) : rs_12 E d := by
  intro m0 g0 g1 g2 g3 g4 F47 F48 hd hI0 hg0 hg1 hg2 hg3 hg4 hG47 hG48 hp0 hp1 hp2 hp3
  have hF0 : zFr W_12 m0 m0 := zFr.rfl
  have bg0 := ib_45_7 hI0
  rw [hg0] at bg0
  have bg1 := ib_45_6 hI0
  rw [hg1] at bg1
  have bg2 := hI0.fi (c := 45) (k := 1) rfl
  rw [hg2] at bg2
  have bg3 := ib_45_8 hI0
  rw [hg3] at bg3
  have bg4 := ib_45_5 hI0
  rw [hg4] at bg4
  generalize hQ : (fun (v : zV) (m' : zM) => v = (9, 0) ∧ zInv m' ∧ zFr W_12 m0 m' ∧ (zCr (chf F47 g4) g0 g1 g3 (m' 48) (m' 45 6) (m' 45 8) (m' 45 1)) ∧ (zFrm F48 (m' 48) g3) ∧ (m' 45 1 ≠ -1 ∨ (g1 < m' 45 6 ∧ m' 45 8 - g3 ≤ m' 45 6 - g1)) ∧ (m' 45 6 ≤ g4 ∧ g3 ≤ m' 45 8) ∧ (m' 45 7 = g0)) = Q
  show zW E d 12 0 [(2, 45)] [] m0 Q
  refine zw_7 zr_12_0 rfl ?_
  refine zw_46i zr_12_1 hg0 rfl rfl rfl ?_
  refine zw_push zr_12_4 ?_
  refine zw_41_0 zr_12_6 ?_ ?_
  · intro h1
    refine zw_7 zr_12_15 rfl ?_
    refine zw_43 zr_12_16 rfl ?_
    refine zw_46i zr_12_17 hg1 rfl rfl rfl ?_
    refine zw_push zr_12_20 ?_
    refine zw_16 zr_12_21 (by omega) ?_
    refine zw_47 (c := 45) zr_12_22 rfl ⟨rfl, by decide, rfl⟩ ?_
    intro m2 em2
    have hIm2 : zInv m2 := by rw [em2]; exact hI0.bd (r := 45) (k := 6) (lo := 0) (hi := 50) rfl (by omega) (by decide) (by decide) (by decide)
    have hFm2 : zFr W_12 m0 m2 := by rw [em2]; exact hF0.up rfl
    have km2_45_7 : m2 45 7 = g0 := by rw [em2, zUp_ne (by omega)]; exact hg0
    have km2_45_1 : m2 45 1 = g2 := by rw [em2, zUp_ne (by omega)]; exact hg2
    have km2_45_8 : m2 45 8 = g3 := by rw [em2, zUp_ne (by omega)]; exact hg3
    have km2_45_5 : m2 45 5 = g4 := by rw [em2, zUp_ne (by omega)]; exact hg4
    have km2_45_6 : m2 45 6 = (g1 + 1) := by rw [em2]; exact zUp_eq _ _ _ _
    have fm2_47 : m2 47 = F47 := by rw [em2, zUp_fn (by decide)]; exact hG47
    have fm2_48 : m2 48 = F48 := by rw [em2, zUp_fn (by decide)]; exact hG48
    clear em2
    refine zw_7 zr_12_25 rfl ?_
    refine zw_43 zr_12_26 rfl ?_
    refine zw_46i zr_12_27 km2_45_7 rfl rfl rfl ?_
    refine zw_push zr_12_30 ?_
    refine zw_16 zr_12_31 (by omega) ?_
    refine zw_47 (c := 45) zr_12_32 rfl ⟨rfl, by decide, rfl⟩ ?_
    intro m3 em3
    have hIm3 : zInv m3 := by rw [em3]; exact hIm2.bd (r := 45) (k := 7) (lo := 0) (hi := 8) rfl (by omega) (by decide) (by decide) (by decide)
    have hFm3 : zFr W_12 m0 m3 := by rw [em3]; exact hFm2.up rfl
    have km3_45_1 : m3 45 1 = g2 := by rw [em3, zUp_ne (by omega)]; exact km2_45_1
    have km3_45_8 : m3 45 8 = g3 := by rw [em3, zUp_ne (by omega)]; exact km2_45_8
    have km3_45_5 : m3 45 5 = g4 := by rw [em3, zUp_ne (by omega)]; exact km2_45_5
    have km3_45_6 : m3 45 6 = (g1 + 1) := by rw [em3, zUp_ne (by omega)]; exact km2_45_6
    have km3_45_7 : m3 45 7 = (g0 + 1) := by rw [em3]; exact zUp_eq _ _ _ _
    have fm3_47 : m3 47 = F47 := by rw [em3, zUp_fn (by decide)]; exact fm2_47
    have fm3_48 : m3 48 = F48 := by rw [em3, zUp_fn (by decide)]; exact fm2_48
    clear em3
    refine zw_7 zr_12_35 rfl ?_
    refine zw_push zr_12_36 ?_
    refine zw_C zr_12_37 (Or.inl rfl) zm_13 rfl rfl ⟨Nat.le_of_ble_eq_true rfl, Nat.le_of_ble_eq_true rfl, Nat.le_of_ble_eq_true rfl, rfl, by decide⟩ (by omega) (ih13 m3 (0) ((g0 + 1)) ((g1 + 1)) (g2) (g3) (g4) (F47) (F48) (by omega) hIm3 km3_45_7 km3_45_6 km3_45_1 km3_45_8 km3_45_5 fm3_47 fm3_48 (by omega) (by omega) (by omega)) ?_
    rintro _ m4 ⟨rfl, hIm4, gm4, po0_m4, po1_m4, po2_m4, po3_m4, po4_m4⟩
    have hFm4 : zFr W_12 m0 m4 := hFm3.trans gm4 rfl
    have km4_45_5 : m4 45 5 = g4 := (gm4 45 5 rfl).trans km3_45_5
    have fm4_47 : m4 47 = F47 := (funext fun k => gm4 47 k rfl).trans fm3_47
    obtain ⟨f5, fm4_48⟩ : ∃ f, m4 48 = f := ⟨_, rfl⟩
    try rw [fm4_48] at po0_m4
    try rw [fm4_48] at po1_m4
    obtain ⟨f6, ef6⟩ : ∃ v, m4 45 1 = v := ⟨_, rfl⟩
    have bf6 := hIm4.fi (c := 45) (k := 1) rfl
    rw [ef6] at bf6
    rw [ef6] at po0_m4
    rw [ef6] at po2_m4
    obtain ⟨f7, ef7⟩ : ∃ v, m4 45 6 = v := ⟨_, rfl⟩
    have bf7 := ib_45_6 hIm4
    rw [ef7] at bf7
    rw [ef7] at po0_m4
    rw [ef7] at po2_m4
    rw [ef7] at po3_m4
    obtain ⟨f8, ef8⟩ : ∃ v, m4 45 8 = v := ⟨_, rfl⟩
    have bf8 := ib_45_8 hIm4
    rw [ef8] at bf8
    rw [ef8] at po0_m4
    rw [ef8] at po2_m4
    rw [ef8] at po3_m4
    show zW E (d) 12 40 [(2, 45)] [] m4 Q
    refine zw_7 zr_12_40 rfl ?_
    refine zw_43 zr_12_41 rfl ?_
    refine zw_46i zr_12_42 po4_m4 rfl rfl rfl ?_
    refine zw_push zr_12_45 ?_
    refine zw_17 zr_12_46 (by omega) ?_
    refine zw_47 (c := 45) zr_12_47 rfl ⟨rfl, by decide, rfl⟩ ?_
    intro m9 em9
    have hIm9 : zInv m9 := by rw [em9]; exact hIm4.bd (r := 45) (k := 7) (lo := 0) (hi := 8) rfl (by omega) (by decide) (by decide) (by decide)
    have hFm9 : zFr W_12 m0 m9 := by rw [em9]; exact hFm4.up rfl
    have km9_45_5 : m9 45 5 = g4 := by rw [em9, zUp_ne (by omega)]; exact km4_45_5
    have km9_45_1 : m9 45 1 = f6 := by rw [em9, zUp_ne (by omega)]; exact ef6
    have km9_45_6 : m9 45 6 = f7 := by rw [em9, zUp_ne (by omega)]; exact ef7
    have km9_45_8 : m9 45 8 = f8 := by rw [em9, zUp_ne (by omega)]; exact ef8
    have km9_45_7 : m9 45 7 = ((g0 + 1) - 1) := by rw [em9]; exact zUp_eq _ _ _ _
    have fm9_47 : m9 47 = F47 := by rw [em9, zUp_fn (by decide)]; exact fm4_47
    have fm9_48 : m9 48 = f5 := by rw [em9, zUp_fn (by decide)]; exact fm4_48
    clear em9
    refine zw_7 zr_12_50 rfl ?_
    refine zw_C zr_12_51 (Or.inl rfl) zm_6 rfl rfl ⟨Nat.le_of_ble_eq_true rfl, Nat.le_of_ble_eq_true rfl, Nat.le_of_ble_eq_true rfl, rfl, by decide⟩ (by omega) (th_6 (d := d - 1) (by omega) hIm9  (g0 := f7) (g1 := f6) (g2 := g4)  (F47 := F47) km9_45_6 km9_45_1 km9_45_5 fm9_47  (by omega)) ?_
    rintro _ m10 ⟨r11, rfl, hr11a, hr11b, hIm10, gm10, po0_r11, po1_r11, po2_r11, po3_r11, po4_r11⟩
    have hFm10 : zFr W_12 m0 m10 := hFm9.trans gm10 rfl
    have km10_45_5 : m10 45 5 = g4 := (gm10 45 5 rfl).trans km9_45_5
    have km10_45_1 : m10 45 1 = f6 := (gm10 45 1 rfl).trans km9_45_1
    have km10_45_8 : m10 45 8 = f8 := (gm10 45 8 rfl).trans km9_45_8
    have km10_45_7 : m10 45 7 = ((g0 + 1) - 1) := (gm10 45 7 rfl).trans km9_45_7
    have fm10_47 : m10 47 = F47 := (funext fun k => gm10 47 k rfl).trans fm9_47
    have fm10_48 : m10 48 = f5 := (funext fun k => gm10 48 k rfl).trans fm9_48
    obtain ⟨f12, ef12⟩ : ∃ v, m10 45 6 = v := ⟨_, rfl⟩
    have bf12 := ib_45_6 hIm10
    rw [ef12] at bf12
    rw [ef12] at po0_r11
    rw [ef12] at po1_r11
    rw [ef12] at po2_r11
    rw [ef12] at po3_r11
    show zW E (d) 12 54 [(2, 45)] [(0, r11)] m10 Q
    clear po0_r11
    refine zw_push zr_12_54 ?_
    refine zw_41_4 zr_12_56 ?_ ?_
    · intro h13
      refine zw_7 zr_12_72 rfl ?_
      refine zw_push zr_12_73 ?_
      refine zw_C zr_12_74 (Or.inl rfl) zm_5 rfl rfl ⟨Nat.le_of_ble_eq_true rfl, Nat.le_of_ble_eq_true rfl, Nat.le_of_ble_eq_true rfl, rfl, by decide⟩ (by omega) (P := (fun v m' => zW E (d) 12 77 [(2, 45)] (if v.1 = 9 then [] else v :: []) m' Q)) ?_ (fun _ _ h => h)
      generalize hQ1 : (fun v m' => zW E (d) 12 77 [(2, 45)] (if v.1 = 9 then [] else v :: []) m' Q) = Q1
      show zW E (d - 1) 5 0 [(2, 45), (0, 1)] [] m10 Q1
      refine zw_7 zr_5_0 rfl ?_
      refine zw_46i zr_5_1 km10_45_1 rfl rfl rfl ?_
      refine zw_push zr_5_4 ?_
      refine zw_41_4 zr_5_5 ?_ ?_
      · intro h14
        refine zw_R zr_5_21 (by decide) zm_5 (v := (9, 0)) rfl ?_
        rw [← hQ1]
        show zW E (d) 12 77 [(2, 45)] [] m10 Q
        refine zw_R zr_12_77 (by decide) zm_12 (v := (9, 0)) rfl ?_
        rw [← hQ]; exact ⟨rfl, hIm10, hFm10, by rw [fm10_48, ef12, km10_45_8, km10_45_1]; first | exact zBr_9 hp3 (by omega) | exact zBr_y hp3 po0_m4 po1_r11 (by omega) (by omega) | exact zBr_n hp3 po0_m4 po1_r11 (by omega) (by omega) (by omega) | (exfalso; omega), by rw [fm10_48]; first | exact zFrm_r | exact po1_m4, by omega, by omega, by omega⟩
      · intro h20
        refine zw_7 zr_5_8 rfl ?_
        refine zw_7 zr_5_9 rfl ?_
        refine zw_46i zr_5_10 ef12 rfl rfl rfl ?_
        refine zw_push zr_5_13 ?_
        refine zw_18 zr_5_15 (by omega) ?_
        refine zw_3 zr_5_16 rfl ?_
        refine zw_16 zr_5_17 (by omega) ?_
        refine zw_47 (c := 45) zr_5_18 rfl ⟨rfl, by decide, rfl⟩ ?_
        intro m21 em21
        have hIm21 : zInv m21 := by rw [em21]; exact hIm10.any (by omega) rfl (by decide) (by decide)
        have hFm21 : zFr W_12 m0 m21 := by rw [em21]; exact hFm10.up rfl
        have km21_45_5 : m21 45 5 = g4 := by rw [em21, zUp_ne (by omega)]; exact km10_45_5
        have km21_45_8 : m21 45 8 = f8 := by rw [em21, zUp_ne (by omega)]; exact km10_45_8
        have km21_45_7 : m21 45 7 = ((g0 + 1) - 1) := by rw [em21, zUp_ne (by omega)]; exact km10_45_7
        have km21_45_6 : m21 45 6 = f12 := by rw [em21, zUp_ne (by omega)]; exact ef12
        have km21_45_1 : m21 45 1 = ((f12 * 10) + 1) := by rw [em21]; exact zUp_eq _ _ _ _
        have fm21_47 : m21 47 = F47 := by rw [em21, zUp_fn (by decide)]; exact fm10_47
        have fm21_48 : m21 48 = f5 := by rw [em21, zUp_fn (by decide)]; exact fm10_48
        clear em21
        refine zw_R zr_5_21 (by decide) zm_5 (v := (9, 0)) rfl ?_
        rw [← hQ1]
        show zW E (d) 12 77 [(2, 45)] [] m21 Q
        refine zw_R zr_12_77 (by decide) zm_12 (v := (9, 0)) rfl ?_
        rw [← hQ]; exact ⟨rfl, hIm21, hFm21, by rw [fm21_48, km21_45_6, km21_45_8, km21_45_1]; first | exact zBr_9 hp3 (by omega) | exact zBr_y hp3 po0_m4 po1_r11 (by omega) (by omega) | exact zBr_n hp3 po0_m4 po1_r11 (by omega) (by omega) (by omega) | (exfalso; omega), by rw [fm21_48]; first | exact zFrm_r | exact po1_m4, by omega, by omega, by omega⟩
    · intro h27
      refine zw_7 zr_12_59 rfl ?_
      refine zw_43 zr_12_60 rfl ?_
      refine zw_46i zr_12_61 ef12 rfl rfl rfl ?_
      refine zw_push zr_12_64 ?_
      refine zw_16 zr_12_65 (by omega) ?_
      refine zw_47 (c := 45) zr_12_66 rfl ⟨rfl, by decide, rfl⟩ ?_
      intro m28 em28
      have hIm28 : zInv m28 := by rw [em28]; exact hIm10.bd (r := 45) (k := 6) (lo := 0) (hi := 50) rfl (by omega) (by decide) (by decide) (by decide)
      have hFm28 : zFr W_12 m0 m28 := by rw [em28]; exact hFm10.up rfl
      have km28_45_5 : m28 45 5 = g4 := by rw [em28, zUp_ne (by omega)]; exact km10_45_5
      have km28_45_1 : m28 45 1 = f6 := by rw [em28, zUp_ne (by omega)]; exact km10_45_1
      have km28_45_8 : m28 45 8 = f8 := by rw [em28, zUp_ne (by omega)]; exact km10_45_8
      have km28_45_7 : m28 45 7 = ((g0 + 1) - 1) := by rw [em28, zUp_ne (by omega)]; exact km10_45_7
      have km28_45_6 : m28 45 6 = (f12 + 1) := by rw [em28]; exact zUp_eq _ _ _ _
      have fm28_47 : m28 47 = F47 := by rw [em28, zUp_fn (by decide)]; exact fm10_47
      have fm28_48 : m28 48 = f5 := by rw [em28, zUp_fn (by decide)]; exact fm10_48
      clear em28
      refine zw_42 zr_12_69 ?_
      refine zw_R zr_12_77 (by decide) zm_12 (v := (9, 0)) rfl ?_
      rw [← hQ]; exact ⟨rfl, hIm28, hFm28, by rw [fm28_48, km28_45_6, km28_45_8, km28_45_1]; first | exact zBr_9 hp3 (by omega) | exact zBr_y hp3 po0_m4 po1_r11 (by omega) (by omega) | exact zBr_n hp3 po0_m4 po1_r11 (by omega) (by omega) (by omega) | (exfalso; omega), by rw [fm28_48]; first | exact zFrm_r | exact po1_m4, by omega, by omega, by omega⟩
  · intro h34
    refine zw_7 zr_12_9 rfl ?_
    refine zw_push zr_12_10 ?_
    refine zw_C zr_12_11 (Or.inl rfl) zm_5 rfl rfl ⟨Nat.le_of_ble_eq_true rfl, Nat.le_of_ble_eq_true rfl, Nat.le_of_ble_eq_true rfl, rfl, by decide⟩ (by omega) (P := (fun v m' => zW E (d) 12 14 [(2, 45)] (if v.1 = 9 then [] else v :: []) m' Q)) ?_ (fun _ _ h => h)
    generalize hQ1 : (fun v m' => zW E (d) 12 14 [(2, 45)] (if v.1 = 9 then [] else v :: []) m' Q) = Q1
    show zW E (d - 1) 5 0 [(2, 45), (0, 3)] [] m0 Q1
    refine zw_7 zr_5_0 rfl ?_
    refine zw_46i zr_5_1 hg2 rfl rfl rfl ?_
    refine zw_push zr_5_4 ?_
    refine zw_41_4 zr_5_5 ?_ ?_
    · intro h35
      refine zw_R zr_5_21 (by decide) zm_5 (v := (9, 0)) rfl ?_
      rw [← hQ1]
      show zW E (d) 12 14 [(2, 45)] [] m0 Q
      refine zw_R zr_12_14 (by decide) zm_12 (v := (9, 0)) rfl ?_
      rw [← hQ]; exact ⟨rfl, hI0, hF0, by rw [hG48, hg1, hg3, hg2]; first | exact zBr_9 hp3 (by omega) | exact zBr_y hp3 zz zz (by omega) (by omega) | exact zBr_n hp3 zz zz (by omega) (by omega) (by omega) | (exfalso; omega), by rw [hG48]; first | exact zFrm_r | exact zz, by omega, by omega, by omega⟩
    · intro h41
      refine zw_7 zr_5_8 rfl ?_
      refine zw_7 zr_5_9 rfl ?_
      refine zw_46i zr_5_10 hg1 rfl rfl rfl ?_
      refine zw_push zr_5_13 ?_
      refine zw_18 zr_5_15 (by omega) ?_
      refine zw_3 zr_5_16 rfl ?_
      refine zw_16 zr_5_17 (by omega) ?_
      refine zw_47 (c := 45) zr_5_18 rfl ⟨rfl, by decide, rfl⟩ ?_
      intro m42 em42
      have hIm42 : zInv m42 := by rw [em42]; exact hI0.any (by omega) rfl (by decide) (by decide)
      have hFm42 : zFr W_12 m0 m42 := by rw [em42]; exact hF0.up rfl
      have km42_45_7 : m42 45 7 = g0 := by rw [em42, zUp_ne (by omega)]; exact hg0
      have km42_45_6 : m42 45 6 = g1 := by rw [em42, zUp_ne (by omega)]; exact hg1
      have km42_45_8 : m42 45 8 = g3 := by rw [em42, zUp_ne (by omega)]; exact hg3
      have km42_45_5 : m42 45 5 = g4 := by rw [em42, zUp_ne (by omega)]; exact hg4
      have km42_45_1 : m42 45 1 = ((g1 * 10) + 3) := by rw [em42]; exact zUp_eq _ _ _ _
      have fm42_47 : m42 47 = F47 := by rw [em42, zUp_fn (by decide)]; exact hG47
      have fm42_48 : m42 48 = F48 := by rw [em42, zUp_fn (by decide)]; exact hG48
      clear em42
      refine zw_R zr_5_21 (by decide) zm_5 (v := (9, 0)) rfl ?_
      rw [← hQ1]
      show zW E (d) 12 14 [(2, 45)] [] m42 Q
      refine zw_R zr_12_14 (by decide) zm_12 (v := (9, 0)) rfl ?_
      rw [← hQ]; exact ⟨rfl, hIm42, hFm42, by rw [fm42_48, km42_45_6, km42_45_8, km42_45_1]; first | exact zBr_9 hp3 (by omega) | exact zBr_y hp3 zz zz (by omega) (by omega) | exact zBr_n hp3 zz zz (by omega) (by omega) (by omega) | (exfalso; omega), by rw [fm42_48]; first | exact zFrm_r | exact zz, by omega, by omega, by omega⟩
theorem gr_13 (E : zE) : ∀ d, rs_13 E d ∧ rs_14 E d ∧ rs_12 E d := by
  intro d
  induction d with
  | zero => exact ⟨(by intro m0 a0 g0 g1 g2 g3 g4 F47 F48 hd; exfalso; omega), (by intro m0 g0 g1 g2 g3 g4 F47 F48 hd; exfalso; omega), (by intro m0 g0 g1 g2 g3 g4 F47 F48 hd; exfalso; omega)⟩
  | succ d ih => exact ⟨tr_13 (d := d + 1) ih.1 ih.2.1 ih.2.2, tr_14 (d := d + 1) ih.1 ih.2.1 ih.2.2, tr_12 (d := d + 1) ih.1 ih.2.1 ih.2.2⟩
theorem th_13 {E : zE} {d : Nat} {m0 : zM} {a0 : Int} {g0 : Int} {g1 : Int} {g2 : Int} {g3 : Int} {g4 : Int} {F47 : Nat → Int} {F48 : Nat → Int} (hd : (10 * (8 - g0) + (6 - a0)).toNat + 6 ≤ d) (hI0 : zInv m0) (hg0 : m0 45 7 = g0) (hg1 : m0 45 6 = g1) (hg2 : m0 45 1 = g2) (hg3 : m0 45 8 = g3) (hg4 : m0 45 5 = g4) (hG47 : m0 47 = F47) (hG48 : m0 48 = F48) (ha0 : 0 ≤ a0 ∧ a0 ≤ 5) (hp0 : g2 = -1) (hp1 : 0 ≤ g3 ∧ g3 ≤ g1 ∧ g1 ≤ g4) : zC E d 13 [(2, 45), (0, a0)] m0 (fun v m' => v = (9, 0) ∧ zInv m' ∧ zFr W_13 m0 m' ∧ (zLv (chf F47 g4) a0 g0 g1 g3 (m' 48) (m' 45 6) (m' 45 8) (m' 45 1)) ∧ (zFrm F48 (m' 48) g3) ∧ (m' 45 1 ≠ -1 ∨ (g1 < m' 45 6 ∧ m' 45 8 - g3 ≤ m' 45 6 - g1)) ∧ (m' 45 6 ≤ g4 ∧ g3 ≤ m' 45 8) ∧ (m' 45 7 = g0)) := (gr_13 E d).1 m0 a0 g0 g1 g2 g3 g4 F47 F48 hd hI0 hg0 hg1 hg2 hg3 hg4 hG47 hG48 ha0 hp0 hp1
theorem th_14 {E : zE} {d : Nat} {m0 : zM} {g0 : Int} {g1 : Int} {g2 : Int} {g3 : Int} {g4 : Int} {F47 : Nat → Int} {F48 : Nat → Int} (hd : (10 * (8 - g0)).toNat + 6 ≤ d) (hI0 : zInv m0) (hg0 : m0 45 7 = g0) (hg1 : m0 45 6 = g1) (hg2 : m0 45 1 = g2) (hg3 : m0 45 8 = g3) (hg4 : m0 45 5 = g4) (hG47 : m0 47 = F47) (hG48 : m0 48 = F48) (hp0 : g2 = -1) (hp1 : 0 ≤ g3 ∧ g3 ≤ g1 ∧ g1 ≤ g4) : zC E d 14 [(2, 45)] m0 (fun v m' => v = (9, 0) ∧ zInv m' ∧ zFr W_14 m0 m' ∧ (zLv (chf F47 g4) 5 g0 g1 g3 (m' 48) (m' 45 6) (m' 45 8) (m' 45 1)) ∧ (zFrm F48 (m' 48) g3) ∧ (m' 45 1 ≠ -1 ∨ (g1 < m' 45 6 ∧ m' 45 8 - g3 ≤ m' 45 6 - g1)) ∧ (m' 45 6 ≤ g4 ∧ g3 ≤ m' 45 8) ∧ (m' 45 7 = g0)) := (gr_13 E d).2.1 m0 g0 g1 g2 g3 g4 F47 F48 hd hI0 hg0 hg1 hg2 hg3 hg4 hG47 hG48 hp0 hp1
theorem th_12 {E : zE} {d : Nat} {m0 : zM} {g0 : Int} {g1 : Int} {g2 : Int} {g3 : Int} {g4 : Int} {F47 : Nat → Int} {F48 : Nat → Int} (hd : (10 * (8 - g0)).toNat + 5 ≤ d) (hI0 : zInv m0) (hg0 : m0 45 7 = g0) (hg1 : m0 45 6 = g1) (hg2 : m0 45 1 = g2) (hg3 : m0 45 8 = g3) (hg4 : m0 45 5 = g4) (hG47 : m0 47 = F47) (hG48 : m0 48 = F48) (hp0 : g1 ≤ 49) (hp1 : g2 = -1) (hp2 : 0 ≤ g3 ∧ g3 ≤ g1 ∧ g1 < g4) (hp3 : chf F47 g4 g1.toNat = 40) : zC E d 12 [(2, 45)] m0 (fun v m' => v = (9, 0) ∧ zInv m' ∧ zFr W_12 m0 m' ∧ (zCr (chf F47 g4) g0 g1 g3 (m' 48) (m' 45 6) (m' 45 8) (m' 45 1)) ∧ (zFrm F48 (m' 48) g3) ∧ (m' 45 1 ≠ -1 ∨ (g1 < m' 45 6 ∧ m' 45 8 - g3 ≤ m' 45 6 - g1)) ∧ (m' 45 6 ≤ g4 ∧ g3 ≤ m' 45 8) ∧ (m' 45 7 = g0)) := (gr_13 E d).2.2 m0 g0 g1 g2 g3 g4 F47 F48 hd hI0 hg0 hg1 hg2 hg3 hg4 hG47 hG48 hp0 hp1 hp2 hp3
