abbrev W_45 : List (Nat × Nat) := [(43, 5), (44, 1000), (45, 1), (45, 5), (45, 6), (45, 7), (45, 8), (45, 9), (46, 1000), (47, 1000), (48, 1000), (49, 1000), (50, 1000), (51, 1000)]
set_option maxHeartbeats 8000000 in
theorem th_45 {E : zE} {d : Nat} {m0 : zM} {a0 : Int} {a1 : Int} {a2 : Int} {g0 : Int} {g1 : Int} {F5 : Nat → Int} {F6 : Nat → Int} {F7 : Nat → Int} {F8 : Nat → Int} {F10 : Nat → Int} {F11 : Nat → Int} {F44 : Nat → Int} {F48 : Nat → Int} {F50 : Nat → Int} {F51 : Nat → Int} {F9 : Nat → Int} (hd : 95 ≤ d) (hI0 : zInv m0) (hg0 : m0 1 1 = g0) (hg1 : m0 1 2 = g1) (hG5 : m0 5 = F5) (hG6 : m0 6 = F6) (hG7 : m0 7 = F7) (hG8 : m0 8 = F8) (hG10 : m0 10 = F10) (hG11 : m0 11 = F11) (hG44 : m0 44 = F44) (hG48 : m0 48 = F48) (hG50 : m0 50 = F50) (hG51 : m0 51 = F51) (hG9 : m0 9 = F9) (ha0 : 0 ≤ a0 ∧ a0 ≤ 3) (ha1 : 0 ≤ a1 ∧ a1 ≤ 9) (ha2 : 0 ≤ a2 ∧ a2 ≤ 99) : zC E d 45 [(2, 43), (0, a0), (0, a1), (0, a2)] m0 (fun v m' => ∃ r : Int, v = (0, r) ∧ (-2147483648) ≤ r ∧ r ≤ 2147483647 ∧ zInv m' ∧ zFr W_45 m0 m' ∧ (∃ S, zSn (pst (chc F11 F10 a0) F6 F7 F8 F5 (zbt g1)) (hsl F5 F6 F7 a2 a1) (F9 a0.toNat) S g0 ∧ r = S.1 a1.toNat) ∧ (-100000 ≤ r ∧ r ≤ 100000)) := by
  have hF0 : zFr W_45 m0 m0 := zFr.rfl
  have bg0 := ib_1_1 hI0
  rw [hg0] at bg0
  have bg1 := ib_1_2 hI0
  rw [hg1] at bg1
  generalize hQ : (fun (v : zV) (m' : zM) => ∃ r : Int, v = (0, r) ∧ (-2147483648) ≤ r ∧ r ≤ 2147483647 ∧ zInv m' ∧ zFr W_45 m0 m' ∧ (∃ S, zSn (pst (chc F11 F10 a0) F6 F7 F8 F5 (zbt g1)) (hsl F5 F6 F7 a2 a1) (F9 a0.toNat) S g0 ∧ r = S.1 a1.toNat) ∧ (-100000 ≤ r ∧ r ≤ 100000)) = Q
  show zW E d 45 0 [(2, 43), (0, a0), (0, a1), (0, a2), (9, 0)] [] m0 Q
  refine zw_7 zr_45_0 rfl ?_
  refine zw_3 zr_45_1 rfl ?_
  refine zw_C zr_45_2 (Or.inl rfl) zm_16 rfl rfl ⟨Nat.le_of_ble_eq_true rfl, Nat.le_of_ble_eq_true rfl, Nat.le_of_ble_eq_true rfl, rfl, by decide⟩ (by omega) (th_16 (d := d - 1) (by omega) hI0 (a0 := a0)   (F9 := F9) (F10 := F10) (F11 := F11) (F44 := F44) (F48 := F48) (F50 := F50) (F51 := F51)  hG9 hG10 hG11 hG44 hG48 hG50 hG51 (by omega) ) ?_
  rintro _ m1 ⟨rfl, hIm1, gm1, po0_m1, po1_m1⟩
  have hFm1 : zFr W_45 m0 m1 := hF0.trans gm1 rfl
  have km1_1_1 : m1 1 1 = g0 := (gm1 1 1 rfl).trans hg0
  have km1_1_2 : m1 1 2 = g1 := (gm1 1 2 rfl).trans hg1
  have fm1_5 : m1 5 = F5 := (funext fun k => gm1 5 k rfl).trans hG5
  have fm1_6 : m1 6 = F6 := (funext fun k => gm1 6 k rfl).trans hG6
  have fm1_7 : m1 7 = F7 := (funext fun k => gm1 7 k rfl).trans hG7
  have fm1_8 : m1 8 = F8 := (funext fun k => gm1 8 k rfl).trans hG8
  have fm1_10 : m1 10 = F10 := (funext fun k => gm1 10 k rfl).trans hG10
  have fm1_11 : m1 11 = F11 := (funext fun k => gm1 11 k rfl).trans hG11
  obtain ⟨f2, fm1_44⟩ : ∃ f, m1 44 = f := ⟨_, rfl⟩
  try rw [fm1_44] at po1_m1
  obtain ⟨f3, fm1_48⟩ : ∃ f, m1 48 = f := ⟨_, rfl⟩
  try rw [fm1_48] at po0_m1
  obtain ⟨f4, fm1_50⟩ : ∃ f, m1 50 = f := ⟨_, rfl⟩
  try rw [fm1_50] at po1_m1
  obtain ⟨f5, fm1_51⟩ : ∃ f, m1 51 = f := ⟨_, rfl⟩
  try rw [fm1_51] at po1_m1
  have fm1_9 : m1 9 = F9 := (funext fun k => gm1 9 k rfl).trans hG9
  obtain ⟨f6, ef6⟩ : ∃ v, m1 45 1 = v := ⟨_, rfl⟩
  have bf6 := hIm1.fi (c := 45) (k := 1) rfl
  rw [ef6] at bf6
  rw [ef6] at po0_m1
  obtain ⟨f7, ef7⟩ : ∃ v, m1 45 8 = v := ⟨_, rfl⟩
  have bf7 := ib_45_8 hIm1
  rw [ef7] at bf7
  rw [ef7] at po0_m1
  show zW E (d) 45 5 [(2, 43), (0, a0), (0, a1), (0, a2), (9, 0)] [] m1 Q
  refine zw_push zr_45_5 ?_
  refine zw_10 (L' := [(2, 43), (0, a0), (0, a1), (0, a2), (0, 0)]) zr_45_6 (Nat.le_of_ble_eq_true rfl) rfl ?_
  have lp8_13 : ∀ (nlp8_13 : Nat) (i8 : Int) (f10 : Nat → Int) (f11 : Nat → Int) (f12 : Nat → Int) (m9 : zM), zInv m9 → zFr W_45 m0 m9 → m9 1 1 = g0 → m9 1 2 = g1 → m9 45 1 = f6 → m9 45 8 = f7 → m9 5 = F5 → m9 6 = F6 → m9 7 = F7 → m9 8 = F8 → m9 10 = F10 → m9 11 = F11 → m9 44 = f10 → m9 48 = f3 → m9 50 = f11 → m9 51 = f12 → m9 9 = F9 → 0 ≤ i8 → i8 ≤ 60 → (zSn (pst (chc F11 F10 a0) F6 F7 F8 F5 (zbt g1)) (hsl F5 F6 F7 a2 a1) (F9 a0.toNat) (f10, f11, f12) i8) → (zPb (f10, f11, f12) i8) → (i8 ≤ g0) → (60 - i8).toNat < nlp8_13 → zW E (d) 45 8 [(2, 43), (0, a0), (0, a1), (0, a2), (0, i8)] [] m9 Q := by
    intro nlp8_13
    induction nlp8_13 with
    | zero =>
      intros
      exact absurd (by assumption : _ < 0) (Nat.not_lt_zero _)
    | succ nlp8_13 ihlp8_13 =>
      intro i8 f10 f11 f12 m9 hIm9 hFm9 km9_1_1 km9_1_2 km9_45_1 km9_45_8 fm9_5 fm9_6 fm9_7 fm9_8 fm9_10 fm9_11 fm9_44 fm9_48 fm9_50 fm9_51 fm9_9 li8 ui8 hv0lp8_13 hv1lp8_13 hv2lp8_13 hmlp8_13
      refine zw_4 zr_45_8 rfl ?_
      refine zw_7 zr_45_10 rfl ?_
      refine zw_46r (s := 1) zr_45_11 rfl rfl rfl rfl ?_
      refine zw_46i zr_45_14 km9_1_1 rfl rfl rfl ?_
      refine zw_41_3 zr_45_17 ?_ ?_
      · intro h15
        refine zw_7 zr_45_59 rfl ?_
        refine zw_46r (s := 44) zr_45_60 rfl rfl rfl rfl ?_
        refine zw_3 zr_45_63 rfl ?_
        refine zw_48 (c := 44) (len := 10) zr_45_64 rfl rfl (by omega) (by omega) ?_
        intro x16 ex16
        have bx16 := hIm9.ra (c := 44) (len := 10) (k := (a1).toNat) rfl (by omega)
        rw [← ex16] at bx16
        have qx16 : x16 = f10 (a1).toNat := by rw [← fm9_44]; exact ex16
        clear ex16
        have hb := (zPb_at hv1lp8_13 (p := a1) (by omega)).1
        refine zw_R zr_45_65 (by decide) zm_45 (v := (0, x16)) rfl ?_
        rw [← hQ]; exact ⟨_, rfl, by omega, by omega, hIm9, hFm9, ⟨(f10, f11, f12), by have z := hv0lp8_13; rw [show i8 = g0 by omega] at z; exact z, qx16⟩, by have z := qx16; rw [← z] at hb; omega⟩
      · intro h20
        refine zw_7 zr_45_20 rfl ?_
        refine zw_46r (s := 1) zr_45_21 rfl rfl rfl rfl ?_
        refine zw_46r (s := 5) zr_45_24 rfl rfl rfl rfl ?_
        refine zw_4 zr_45_27 rfl ?_
        refine zw_48 (c := 5) (len := 60) zr_45_29 rfl rfl (by omega) (by omega) ?_
        intro x21 ex21
        have bx21 := ib_5 hIm9 (k := (i8).toNat) (by omega)
        rw [← ex21] at bx21
        have qx21 : x21 = F5 (i8).toNat := by rw [← fm9_5]; exact ex21
        clear ex21
        refine zw_3 zr_45_30 rfl ?_
        refine zw_41_4 zr_45_31 ?_ ?_
        · intro h22
          refine zw_7 zr_45_47 rfl ?_
          refine zw_4 zr_45_48 rfl ?_
          refine zw_C zr_45_50 (Or.inl rfl) zm_26 rfl rfl ⟨Nat.le_of_ble_eq_true rfl, Nat.le_of_ble_eq_true rfl, Nat.le_of_ble_eq_true rfl, rfl, by decide⟩ (by omega) (th_26 (d := d - 1) (by omega) hIm9 (a0 := i8) (g0 := f6) (g1 := f7) (g2 := g1) (gS := a0) (gN := i8) (F5 := F5) (F6 := F6) (F7 := F7) (F8 := F8) (F10 := F10) (F11 := F11) (F44 := f10) (F48 := f3) (F50 := f11) (F51 := f12) km9_45_1 km9_45_8 km9_1_2 fm9_5 fm9_6 fm9_7 fm9_8 fm9_10 fm9_11 fm9_44 fm9_48 fm9_50 fm9_51 (by omega) (by assumption) (hv1lp8_13) (by omega)) ?_
          rintro _ m27 ⟨rfl, hIm27, gm27, po0_m27, po1_m27, po2_m27⟩
          have hFm27 : zFr W_45 m0 m27 := hFm9.trans gm27 rfl
          have km27_1_1 : m27 1 1 = g0 := (gm27 1 1 rfl).trans km9_1_1
          have km27_1_2 : m27 1 2 = g1 := (gm27 1 2 rfl).trans km9_1_2
          have km27_45_1 : m27 45 1 = f6 := (gm27 45 1 rfl).trans km9_45_1
          have km27_45_8 : m27 45 8 = f7 := (gm27 45 8 rfl).trans km9_45_8
          have fm27_5 : m27 5 = F5 := (funext fun k => gm27 5 k rfl).trans fm9_5
          have fm27_6 : m27 6 = F6 := (funext fun k => gm27 6 k rfl).trans fm9_6
          have fm27_7 : m27 7 = F7 := (funext fun k => gm27 7 k rfl).trans fm9_7
          have fm27_8 : m27 8 = F8 := (funext fun k => gm27 8 k rfl).trans fm9_8
          have fm27_10 : m27 10 = F10 := (funext fun k => gm27 10 k rfl).trans fm9_10
          have fm27_11 : m27 11 = F11 := (funext fun k => gm27 11 k rfl).trans fm9_11
          obtain ⟨f28, fm27_44⟩ : ∃ f, m27 44 = f := ⟨_, rfl⟩
          try rw [fm27_44] at po0_m27
          try rw [fm27_44] at po1_m27
          have fm27_48 : m27 48 = f3 := (funext fun k => gm27 48 k rfl).trans fm9_48
          obtain ⟨f29, fm27_50⟩ : ∃ f, m27 50 = f := ⟨_, rfl⟩
          try rw [fm27_50] at po0_m27
          try rw [fm27_50] at po1_m27
          obtain ⟨f30, fm27_51⟩ : ∃ f, m27 51 = f := ⟨_, rfl⟩
          try rw [fm27_51] at po0_m27
          try rw [fm27_51] at po1_m27
          have fm27_9 : m27 9 = F9 := (funext fun k => gm27 9 k rfl).trans fm9_9
          obtain ⟨f31, ef31⟩ : ∃ v, m27 43 5 = v := ⟨_, rfl⟩
          have bf31 := hIm27.fi (c := 43) (k := 5) rfl
          rw [ef31] at bf31
          rw [ef31] at po0_m27
          rw [ef31] at po2_m27
          show zW E (d) 45 53 [(2, 43), (0, a0), (0, a1), (0, a2), (0, i8)] [] m27 Q
          refine zw_15 (c := 1) (L' := [(2, 43), (0, a0), (0, a1), (0, a2), (0, (i8 + 1))]) zr_45_53 rfl (by decide) (by omega) rfl ?_
          refine zw_42 zr_45_56 ?_
          exact zw_less (L := [(2, 43), (0, a0), (0, a1), (0, a2), (0, (i8 + 1))]) ⟨Or.inr rfl, Or.inr rfl, Or.inr rfl, Or.inr rfl, Or.inr rfl, trivial⟩ (ihlp8_13 ((i8 + 1)) (f28) (f29) (f30) m27 hIm27 hFm27  km27_1_1 km27_1_2 km27_45_1 km27_45_8 fm27_5 fm27_6 fm27_7 fm27_8 fm27_10 fm27_11 fm27_44 fm27_48 fm27_50 fm27_51 fm27_9 (by omega) (by omega) (by first | exact zSn_y hv0lp8_13 po0_m27 (hsl_y (by omega)) (by omega) | exact zSn_n hv0lp8_13 (hsl_n (by omega)) (by omega)) (by first | exact po1_m27 | exact zPb_m hv1lp8_13 (by omega)) (by omega) (by omega))
        · intro h34
          refine zw_7 zr_45_34 rfl ?_
          refine zw_46r (s := 1) zr_45_35 rfl rfl rfl rfl ?_
          refine zw_4 zr_45_38 rfl ?_
          refine zw_3 zr_45_40 rfl ?_
          refine zw_C zr_45_41 (Or.inl rfl) zm_44 rfl rfl ⟨Nat.le_of_ble_eq_true rfl, Nat.le_of_ble_eq_true rfl, Nat.le_of_ble_eq_true rfl, rfl, by decide⟩ (by omega) (P := (fun v m' => zW E (d) 45 44 [(2, 43), (0, a0), (0, a1), (0, a2), (0, i8)] (if v.1 = 9 then [] else v :: []) m' Q)) ?_ (fun _ _ h => h)
          generalize hQ1 : (fun v m' => zW E (d) 45 44 [(2, 43), (0, a0), (0, a1), (0, a2), (0, i8)] (if v.1 = 9 then [] else v :: []) m' Q) = Q1
          show zW E (d - 1) 44 0 [(2, 1), (0, i8), (0, a1)] [] m9 Q1
          refine zw_7 zr_44_0 rfl ?_
          refine zw_46r (s := 6) zr_44_1 rfl rfl rfl rfl ?_
          refine zw_3 zr_44_4 rfl ?_
          refine zw_48 (c := 6) (len := 60) zr_44_5 rfl rfl (by omega) (by omega) ?_
          intro x35 ex35
          have bx35 := ib_6 hIm9 (k := (i8).toNat) (by omega)
          rw [← ex35] at bx35
          have qx35 : x35 = F6 (i8).toNat := by rw [← fm9_6]; exact ex35
          clear ex35
          refine zw_3 zr_44_6 rfl ?_
          refine zw_41_1 zr_44_7 ?_ ?_
          · intro h36
            refine zw_push zr_44_20 ?_
            refine zw_42 zr_44_21 ?_
            refine zw_R zr_44_25 (by decide) zm_44 (v := (0, 1)) (zRetB (by omega)) ?_
            rw [← hQ1]
            show zW E (d) 45 44 [(2, 43), (0, a0), (0, a1), (0, a2), (0, i8)] [(0, 1)] m9 Q
            refine zw_40_4 zr_45_44 ?_ ?_
            · intro h37
              refine zw_15 (c := 1) (L' := [(2, 43), (0, a0), (0, a1), (0, a2), (0, (i8 + 1))]) zr_45_53 rfl (by decide) (by omega) rfl ?_
              refine zw_42 zr_45_56 ?_
              exact zw_less (L := [(2, 43), (0, a0), (0, a1), (0, a2), (0, (i8 + 1))]) ⟨Or.inr rfl, Or.inr rfl, Or.inr rfl, Or.inr rfl, Or.inr rfl, trivial⟩ (ihlp8_13 ((i8 + 1)) (f10) (f11) (f12) m9 hIm9 hFm9  km9_1_1 km9_1_2 km9_45_1 km9_45_8 fm9_5 fm9_6 fm9_7 fm9_8 fm9_10 fm9_11 fm9_44 fm9_48 fm9_50 fm9_51 fm9_9 (by omega) (by omega) (by first | exact zSn_y hv0lp8_13 zz (hsl_y (by omega)) (by omega) | exact zSn_n hv0lp8_13 (hsl_n (by omega)) (by omega)) (by first | exact zz | exact zPb_m hv1lp8_13 (by omega)) (by omega) (by omega))
            · intro h40; omega
          · intro h41
            refine zw_7 zr_44_10 rfl ?_
            refine zw_46r (s := 7) zr_44_11 rfl rfl rfl rfl ?_
            refine zw_3 zr_44_14 rfl ?_
            refine zw_48 (c := 7) (len := 60) zr_44_15 rfl rfl (by omega) (by omega) ?_
            intro x42 ex42
            have bx42 := ib_7 hIm9 (k := (i8).toNat) (by omega)
            rw [← ex42] at bx42
            have qx42 : x42 = F7 (i8).toNat := by rw [← fm9_7]; exact ex42
            clear ex42
            refine zw_3 zr_44_16 rfl ?_
            refine zw_41_4 zr_44_17 ?_ ?_
            · intro h43
              refine zw_push zr_44_24 ?_
              refine zw_R zr_44_25 (by decide) zm_44 (v := (0, 0)) (zRetB (by omega)) ?_
              rw [← hQ1]
              show zW E (d) 45 44 [(2, 43), (0, a0), (0, a1), (0, a2), (0, i8)] [(0, 0)] m9 Q
              refine zw_40_4 zr_45_44 ?_ ?_
              · intro h44; omega
              · intro h45
                refine zw_7 zr_45_47 rfl ?_
                refine zw_4 zr_45_48 rfl ?_
                refine zw_C zr_45_50 (Or.inl rfl) zm_26 rfl rfl ⟨Nat.le_of_ble_eq_true rfl, Nat.le_of_ble_eq_true rfl, Nat.le_of_ble_eq_true rfl, rfl, by decide⟩ (by omega) (th_26 (d := d - 1) (by omega) hIm9 (a0 := i8) (g0 := f6) (g1 := f7) (g2 := g1) (gS := a0) (gN := i8) (F5 := F5) (F6 := F6) (F7 := F7) (F8 := F8) (F10 := F10) (F11 := F11) (F44 := f10) (F48 := f3) (F50 := f11) (F51 := f12) km9_45_1 km9_45_8 km9_1_2 fm9_5 fm9_6 fm9_7 fm9_8 fm9_10 fm9_11 fm9_44 fm9_48 fm9_50 fm9_51 (by omega) (by assumption) (hv1lp8_13) (by omega)) ?_
                rintro _ m50 ⟨rfl, hIm50, gm50, po0_m50, po1_m50, po2_m50⟩
                have hFm50 : zFr W_45 m0 m50 := hFm9.trans gm50 rfl
                have km50_1_1 : m50 1 1 = g0 := (gm50 1 1 rfl).trans km9_1_1
                have km50_1_2 : m50 1 2 = g1 := (gm50 1 2 rfl).trans km9_1_2
                have km50_45_1 : m50 45 1 = f6 := (gm50 45 1 rfl).trans km9_45_1
                have km50_45_8 : m50 45 8 = f7 := (gm50 45 8 rfl).trans km9_45_8
                have fm50_5 : m50 5 = F5 := (funext fun k => gm50 5 k rfl).trans fm9_5
                have fm50_6 : m50 6 = F6 := (funext fun k => gm50 6 k rfl).trans fm9_6
                have fm50_7 : m50 7 = F7 := (funext fun k => gm50 7 k rfl).trans fm9_7
                have fm50_8 : m50 8 = F8 := (funext fun k => gm50 8 k rfl).trans fm9_8
                have fm50_10 : m50 10 = F10 := (funext fun k => gm50 10 k rfl).trans fm9_10
                have fm50_11 : m50 11 = F11 := (funext fun k => gm50 11 k rfl).trans fm9_11
                obtain ⟨f51, fm50_44⟩ : ∃ f, m50 44 = f := ⟨_, rfl⟩
                try rw [fm50_44] at po0_m50
                try rw [fm50_44] at po1_m50
                have fm50_48 : m50 48 = f3 := (funext fun k => gm50 48 k rfl).trans fm9_48
                obtain ⟨f52, fm50_50⟩ : ∃ f, m50 50 = f := ⟨_, rfl⟩
                try rw [fm50_50] at po0_m50
                try rw [fm50_50] at po1_m50
                obtain ⟨f53, fm50_51⟩ : ∃ f, m50 51 = f := ⟨_, rfl⟩
                try rw [fm50_51] at po0_m50
                try rw [fm50_51] at po1_m50
                have fm50_9 : m50 9 = F9 := (funext fun k => gm50 9 k rfl).trans fm9_9
                obtain ⟨f54, ef54⟩ : ∃ v, m50 43 5 = v := ⟨_, rfl⟩
                have bf54 := hIm50.fi (c := 43) (k := 5) rfl
                rw [ef54] at bf54
                rw [ef54] at po0_m50
                rw [ef54] at po2_m50
                show zW E (d) 45 53 [(2, 43), (0, a0), (0, a1), (0, a2), (0, i8)] [] m50 Q
                refine zw_15 (c := 1) (L' := [(2, 43), (0, a0), (0, a1), (0, a2), (0, (i8 + 1))]) zr_45_53 rfl (by decide) (by omega) rfl ?_
                refine zw_42 zr_45_56 ?_
                exact zw_less (L := [(2, 43), (0, a0), (0, a1), (0, a2), (0, (i8 + 1))]) ⟨Or.inr rfl, Or.inr rfl, Or.inr rfl, Or.inr rfl, Or.inr rfl, trivial⟩ (ihlp8_13 ((i8 + 1)) (f51) (f52) (f53) m50 hIm50 hFm50  km50_1_1 km50_1_2 km50_45_1 km50_45_8 fm50_5 fm50_6 fm50_7 fm50_8 fm50_10 fm50_11 fm50_44 fm50_48 fm50_50 fm50_51 fm50_9 (by omega) (by omega) (by first | exact zSn_y hv0lp8_13 po0_m50 (hsl_y (by omega)) (by omega) | exact zSn_n hv0lp8_13 (hsl_n (by omega)) (by omega)) (by first | exact po1_m50 | exact zPb_m hv1lp8_13 (by omega)) (by omega) (by omega))
            · intro h57
              refine zw_push zr_44_20 ?_
              refine zw_42 zr_44_21 ?_
              refine zw_R zr_44_25 (by decide) zm_44 (v := (0, 1)) (zRetB (by omega)) ?_
              rw [← hQ1]
              show zW E (d) 45 44 [(2, 43), (0, a0), (0, a1), (0, a2), (0, i8)] [(0, 1)] m9 Q
              refine zw_40_4 zr_45_44 ?_ ?_
              · intro h58
                refine zw_15 (c := 1) (L' := [(2, 43), (0, a0), (0, a1), (0, a2), (0, (i8 + 1))]) zr_45_53 rfl (by decide) (by omega) rfl ?_
                refine zw_42 zr_45_56 ?_
                exact zw_less (L := [(2, 43), (0, a0), (0, a1), (0, a2), (0, (i8 + 1))]) ⟨Or.inr rfl, Or.inr rfl, Or.inr rfl, Or.inr rfl, Or.inr rfl, trivial⟩ (ihlp8_13 ((i8 + 1)) (f10) (f11) (f12) m9 hIm9 hFm9  km9_1_1 km9_1_2 km9_45_1 km9_45_8 fm9_5 fm9_6 fm9_7 fm9_8 fm9_10 fm9_11 fm9_44 fm9_48 fm9_50 fm9_51 fm9_9 (by omega) (by omega) (by first | exact zSn_y hv0lp8_13 zz (hsl_y (by omega)) (by omega) | exact zSn_n hv0lp8_13 (hsl_n (by omega)) (by omega)) (by first | exact zz | exact zPb_m hv1lp8_13 (by omega)) (by omega) (by omega))
              · intro h61; omega
  exact lp8_13 _ (0) (f2) (f4) (f5) m1 hIm1 hFm1  km1_1_1 km1_1_2 ef6 ef7 fm1_5 fm1_6 fm1_7 fm1_8 fm1_10 fm1_11 fm1_44 fm1_48 fm1_50 fm1_51 fm1_9 (by omega) (by omega) (zSn_0 po1_m1 rfl) (zPb_0 po1_m1 (by have z := ib_9 hI0 (k := a0.toNat) (by omega); rw [hG9] at z; omega)) (by omega) (Nat.lt_succ_self _)

abbrev W_112 : List (Nat × Nat) := [(43, 5), (44, 1000), (45, 1), (45, 5), (45, 6), (45, 7), (45, 8), (45, 9), (46, 1000), (47, 1000), (48, 1000), (49, 1000), (50, 1000), (51, 1000)]
set_option maxHeartbeats 8000000 in
theorem th_112 {E : zE} {d : Nat} {m0 : zM} {a0 : Int} {a1 : Int} {a2 : Int} {g0 : Int} {g1 : Int} {g2 : Int} {F5 : Nat → Int} {F6 : Nat → Int} {F7 : Nat → Int} {F8 : Nat → Int} {F10 : Nat → Int} {F11 : Nat → Int} {F44 : Nat → Int} {F48 : Nat → Int} {F50 : Nat → Int} {F51 : Nat → Int} {F9 : Nat → Int} (hd : 96 ≤ d) (hI0 : zInv m0) (hg0 : m0 1 0 = g0) (hg1 : m0 1 1 = g1) (hg2 : m0 1 2 = g2) (hG5 : m0 5 = F5) (hG6 : m0 6 = F6) (hG7 : m0 7 = F7) (hG8 : m0 8 = F8) (hG10 : m0 10 = F10) (hG11 : m0 11 = F11) (hG44 : m0 44 = F44) (hG48 : m0 48 = F48) (hG50 : m0 50 = F50) (hG51 : m0 51 = F51) (hG9 : m0 9 = F9) (ha0 : (-2147483648) ≤ a0 ∧ a0 ≤ 2147483647) (ha1 : (-2147483648) ≤ a1 ∧ a1 ≤ 2147483647) (ha2 : (-2147483648) ≤ a2 ∧ a2 ≤ 2147483647) : zC E d 112 [(2, 0), (0, a0), (0, a1), (0, a2)] m0 (fun v m' => ∃ r : Int, v = (0, r) ∧ (-2147483648) ≤ r ∧ r ≤ 2147483647 ∧ zInv m' ∧ zFr W_112 m0 m' ∧ ((r = -100000 ∧ (a0 < 0 ∨ 3 < a0 ∨ a1 < 0 ∨ g0 ≤ a1 ∨ a2 < 0 ∨ 99 < a2)) ∨ ((0 ≤ a0 ∧ a0 ≤ 3 ∧ 0 ≤ a1 ∧ a1 < g0 ∧ 0 ≤ a2 ∧ a2 ≤ 99) ∧ ∃ S T, zSn (pst (chc F11 F10 a0) F6 F7 F8 F5 (zbt g2)) (hsl F5 F6 F7 a2 a1) (F9 a0.toNat) S g1 ∧ zSn (pst (chc F11 F10 a0) F6 F7 F8 F5 (zbt g2)) (fun _ => 1) (F9 a0.toNat) T g1 ∧ r = S.1 a1.toNat - T.1 a1.toNat))) := by
  have hF0 : zFr W_112 m0 m0 := zFr.rfl
  have bg0 := ib_1_0 hI0
  rw [hg0] at bg0
  have bg1 := ib_1_1 hI0
  rw [hg1] at bg1
  have bg2 := ib_1_2 hI0
  rw [hg2] at bg2
  generalize hQ : (fun (v : zV) (m' : zM) => ∃ r : Int, v = (0, r) ∧ (-2147483648) ≤ r ∧ r ≤ 2147483647 ∧ zInv m' ∧ zFr W_112 m0 m' ∧ ((r = -100000 ∧ (a0 < 0 ∨ 3 < a0 ∨ a1 < 0 ∨ g0 ≤ a1 ∨ a2 < 0 ∨ 99 < a2)) ∨ ((0 ≤ a0 ∧ a0 ≤ 3 ∧ 0 ≤ a1 ∧ a1 < g0 ∧ 0 ≤ a2 ∧ a2 ≤ 99) ∧ ∃ S T, zSn (pst (chc F11 F10 a0) F6 F7 F8 F5 (zbt g2)) (hsl F5 F6 F7 a2 a1) (F9 a0.toNat) S g1 ∧ zSn (pst (chc F11 F10 a0) F6 F7 F8 F5 (zbt g2)) (fun _ => 1) (F9 a0.toNat) T g1 ∧ r = S.1 a1.toNat - T.1 a1.toNat))) = Q
  show zW E d 112 0 [(2, 0), (0, a0), (0, a1), (0, a2), (9, 0)] [] m0 Q
  refine zw_3 zr_112_0 rfl ?_
  refine zw_C zr_112_1 (Or.inr rfl) zm_104 rfl rfl ⟨Nat.le_of_ble_eq_true rfl, Nat.le_of_ble_eq_true rfl, Nat.le_of_ble_eq_true rfl, rfl, by decide⟩ (by omega) (P := (fun v m' => zW E (d) 112 4 [(2, 0), (0, a0), (0, a1), (0, a2), (9, 0)] (if v.1 = 9 then [] else v :: []) m' Q)) ?_ (fun _ _ h => h)
  generalize hQ1 : (fun v m' => zW E (d) 112 4 [(2, 0), (0, a0), (0, a1), (0, a2), (9, 0)] (if v.1 = 9 then [] else v :: []) m' Q) = Q1
  show zW E (d - 1) 104 0 [(0, a0)] [] m0 Q1
  refine zw_3 zr_104_0 rfl ?_
  refine zw_push zr_104_1 ?_
  refine zw_push zr_104_2 ?_
  refine zw_C zr_104_3 (Or.inr rfl) zm_100 rfl rfl ⟨Nat.le_of_ble_eq_true rfl, Nat.le_of_ble_eq_true rfl, Nat.le_of_ble_eq_true rfl, rfl, by decide⟩ (by omega) (P := (fun v m' => zW E (d - 1) 104 6 [(0, a0)] (if v.1 = 9 then [] else v :: []) m' Q1)) ?_ (fun _ _ h => h)
  generalize hQ2 : (fun v m' => zW E (d - 1) 104 6 [(0, a0)] (if v.1 = 9 then [] else v :: []) m' Q1) = Q2
  show zW E (d - 1 - 1) 100 0 [(0, a0), (0, 0), (0, 3)] [] m0 Q2
  refine zw_3 zr_100_0 rfl ?_
  refine zw_3 zr_100_1 rfl ?_
  refine zw_41_0 zr_100_2 ?_ ?_
  · intro h1
    refine zw_push zr_100_14 ?_
    refine zw_R zr_100_15 (by decide) zm_100 (v := (0, 0)) (zRetB (by omega)) ?_
    rw [← hQ2]
    show zW E (d - 1) 104 6 [(0, a0)] [(0, 0)] m0 Q1
    refine zw_R zr_104_6 (by decide) zm_104 (v := (0, 0)) (zRetB (by omega)) ?_
    rw [← hQ1]
    show zW E (d) 112 4 [(2, 0), (0, a0), (0, a1), (0, a2), (9, 0)] [(0, 0)] m0 Q
    refine zw_40_1 zr_112_4 ?_ ?_
    · intro h2
      refine zw_push zr_112_25 ?_
      refine zw_R zr_112_27 (by decide) zm_112 (v := (0, (-100000))) rfl ?_
      rw [← hQ]; exact ⟨_, rfl, by omega, by omega, hI0, hF0, by first | exact Or.inl ⟨rfl, by omega⟩ | (obtain ⟨S, z1, z2⟩ := zz; exact Or.inr ⟨by omega, S, _, z1, zz, congr (congrArg HSub.hSub z2) qzz⟩)⟩
    · intro h4; omega
  · intro h5
    refine zw_3 zr_100_5 rfl ?_
    refine zw_3 zr_100_6 rfl ?_
    refine zw_41_2 zr_100_7 ?_ ?_
    · intro h6
      refine zw_push zr_100_14 ?_
      refine zw_R zr_100_15 (by decide) zm_100 (v := (0, 0)) (zRetB (by omega)) ?_
      rw [← hQ2]
      show zW E (d - 1) 104 6 [(0, a0)] [(0, 0)] m0 Q1
      refine zw_R zr_104_6 (by decide) zm_104 (v := (0, 0)) (zRetB (by omega)) ?_
      rw [← hQ1]
      show zW E (d) 112 4 [(2, 0), (0, a0), (0, a1), (0, a2), (9, 0)] [(0, 0)] m0 Q
      refine zw_40_1 zr_112_4 ?_ ?_
      · intro h7
        refine zw_push zr_112_25 ?_
        refine zw_R zr_112_27 (by decide) zm_112 (v := (0, (-100000))) rfl ?_
        rw [← hQ]; exact ⟨_, rfl, by omega, by omega, hI0, hF0, by first | exact Or.inl ⟨rfl, by omega⟩ | (obtain ⟨S, z1, z2⟩ := zz; exact Or.inr ⟨by omega, S, _, z1, zz, congr (congrArg HSub.hSub z2) qzz⟩)⟩
      · intro h9; omega
    · intro h10
      refine zw_push zr_100_10 ?_
      refine zw_42 zr_100_11 ?_
      refine zw_R zr_100_15 (by decide) zm_100 (v := (0, 1)) (zRetB (by omega)) ?_
      rw [← hQ2]
      show zW E (d - 1) 104 6 [(0, a0)] [(0, 1)] m0 Q1
      refine zw_R zr_104_6 (by decide) zm_104 (v := (0, 1)) (zRetB (by omega)) ?_
      rw [← hQ1]
      show zW E (d) 112 4 [(2, 0), (0, a0), (0, a1), (0, a2), (9, 0)] [(0, 1)] m0 Q
      refine zw_40_1 zr_112_4 ?_ ?_
      · intro h11; omega
      · intro h12
        refine zw_7 zr_112_7 rfl ?_
        refine zw_46r (s := 1) zr_112_8 rfl rfl rfl rfl ?_
        refine zw_3 zr_112_11 rfl ?_
        refine zw_C zr_112_12 (Or.inl rfl) zm_49 rfl rfl ⟨Nat.le_of_ble_eq_true rfl, Nat.le_of_ble_eq_true rfl, Nat.le_of_ble_eq_true rfl, rfl, by decide⟩ (by omega) (P := (fun v m' => zW E (d) 112 15 [(2, 0), (0, a0), (0, a1), (0, a2), (9, 0)] (if v.1 = 9 then [] else v :: []) m' Q)) ?_ (fun _ _ h => h)
        generalize hQ1 : (fun v m' => zW E (d) 112 15 [(2, 0), (0, a0), (0, a1), (0, a2), (9, 0)] (if v.1 = 9 then [] else v :: []) m' Q) = Q1
        show zW E (d - 1) 49 0 [(2, 1), (0, a1)] [] m0 Q1
        refine zw_3 zr_49_0 rfl ?_
        refine zw_40_0 zr_49_1 ?_ ?_
        · intro h13
          refine zw_push zr_49_16 ?_
          refine zw_R zr_49_17 (by decide) zm_49 (v := (0, 0)) (zRetB (by omega)) ?_
          rw [← hQ1]
          show zW E (d) 112 15 [(2, 0), (0, a0), (0, a1), (0, a2), (9, 0)] [(0, 0)] m0 Q
          refine zw_40_1 zr_112_15 ?_ ?_
          · intro h14
            refine zw_push zr_112_25 ?_
            refine zw_R zr_112_27 (by decide) zm_112 (v := (0, (-100000))) rfl ?_
            rw [← hQ]; exact ⟨_, rfl, by omega, by omega, hI0, hF0, by first | exact Or.inl ⟨rfl, by omega⟩ | (obtain ⟨S, z1, z2⟩ := zz; exact Or.inr ⟨by omega, S, _, z1, zz, congr (congrArg HSub.hSub z2) qzz⟩)⟩
          · intro h16; omega
        · intro h17
          refine zw_3 zr_49_4 rfl ?_
          refine zw_7 zr_49_5 rfl ?_
          refine zw_46i zr_49_6 hg0 rfl rfl rfl ?_
          refine zw_41_3 zr_49_9 ?_ ?_
          · intro h18
            refine zw_push zr_49_16 ?_
            refine zw_R zr_49_17 (by decide) zm_49 (v := (0, 0)) (zRetB (by omega)) ?_
            rw [← hQ1]
            show zW E (d) 112 15 [(2, 0), (0, a0), (0, a1), (0, a2), (9, 0)] [(0, 0)] m0 Q
            refine zw_40_1 zr_112_15 ?_ ?_
            · intro h19
              refine zw_push zr_112_25 ?_
              refine zw_R zr_112_27 (by decide) zm_112 (v := (0, (-100000))) rfl ?_
              rw [← hQ]; exact ⟨_, rfl, by omega, by omega, hI0, hF0, by first | exact Or.inl ⟨rfl, by omega⟩ | (obtain ⟨S, z1, z2⟩ := zz; exact Or.inr ⟨by omega, S, _, z1, zz, congr (congrArg HSub.hSub z2) qzz⟩)⟩
            · intro h21; omega
          · intro h22
            refine zw_push zr_49_12 ?_
            refine zw_42 zr_49_13 ?_
            refine zw_R zr_49_17 (by decide) zm_49 (v := (0, 1)) (zRetB (by omega)) ?_
            rw [← hQ1]
            show zW E (d) 112 15 [(2, 0), (0, a0), (0, a1), (0, a2), (9, 0)] [(0, 1)] m0 Q
            refine zw_40_1 zr_112_15 ?_ ?_
            · intro h23; omega
            · intro h24
              refine zw_3 zr_112_18 rfl ?_
              refine zw_C zr_112_19 (Or.inr rfl) zm_101 rfl rfl ⟨Nat.le_of_ble_eq_true rfl, Nat.le_of_ble_eq_true rfl, Nat.le_of_ble_eq_true rfl, rfl, by decide⟩ (by omega) (P := (fun v m' => zW E (d) 112 22 [(2, 0), (0, a0), (0, a1), (0, a2), (9, 0)] (if v.1 = 9 then [] else v :: []) m' Q)) ?_ (fun _ _ h => h)
              generalize hQ1 : (fun v m' => zW E (d) 112 22 [(2, 0), (0, a0), (0, a1), (0, a2), (9, 0)] (if v.1 = 9 then [] else v :: []) m' Q) = Q1
              show zW E (d - 1) 101 0 [(0, a2)] [] m0 Q1
              refine zw_3 zr_101_0 rfl ?_
              refine zw_push zr_101_1 ?_
              refine zw_push zr_101_2 ?_
              refine zw_C zr_101_4 (Or.inr rfl) zm_100 rfl rfl ⟨Nat.le_of_ble_eq_true rfl, Nat.le_of_ble_eq_true rfl, Nat.le_of_ble_eq_true rfl, rfl, by decide⟩ (by omega) (P := (fun v m' => zW E (d - 1) 101 7 [(0, a2)] (if v.1 = 9 then [] else v :: []) m' Q1)) ?_ (fun _ _ h => h)
              generalize hQ2 : (fun v m' => zW E (d - 1) 101 7 [(0, a2)] (if v.1 = 9 then [] else v :: []) m' Q1) = Q2
              show zW E (d - 1 - 1) 100 0 [(0, a2), (0, 0), (0, 99)] [] m0 Q2
              refine zw_3 zr_100_0 rfl ?_
              refine zw_3 zr_100_1 rfl ?_
              refine zw_41_0 zr_100_2 ?_ ?_
              · intro h25
                refine zw_push zr_100_14 ?_
                refine zw_R zr_100_15 (by decide) zm_100 (v := (0, 0)) (zRetB (by omega)) ?_
                rw [← hQ2]
                show zW E (d - 1) 101 7 [(0, a2)] [(0, 0)] m0 Q1
                refine zw_R zr_101_7 (by decide) zm_101 (v := (0, 0)) (zRetB (by omega)) ?_
                rw [← hQ1]
                show zW E (d) 112 22 [(2, 0), (0, a0), (0, a1), (0, a2), (9, 0)] [(0, 0)] m0 Q
                refine zw_40_4 zr_112_22 ?_ ?_
                · intro h26; omega
                · intro h27
                  refine zw_push zr_112_25 ?_
                  refine zw_R zr_112_27 (by decide) zm_112 (v := (0, (-100000))) rfl ?_
                  rw [← hQ]; exact ⟨_, rfl, by omega, by omega, hI0, hF0, by first | exact Or.inl ⟨rfl, by omega⟩ | (obtain ⟨S, z1, z2⟩ := zz; exact Or.inr ⟨by omega, S, _, z1, zz, congr (congrArg HSub.hSub z2) qzz⟩)⟩
              · intro h29
                refine zw_3 zr_100_5 rfl ?_
                refine zw_3 zr_100_6 rfl ?_
                refine zw_41_2 zr_100_7 ?_ ?_
                · intro h30
                  refine zw_push zr_100_14 ?_
                  refine zw_R zr_100_15 (by decide) zm_100 (v := (0, 0)) (zRetB (by omega)) ?_
                  rw [← hQ2]
                  show zW E (d - 1) 101 7 [(0, a2)] [(0, 0)] m0 Q1
                  refine zw_R zr_101_7 (by decide) zm_101 (v := (0, 0)) (zRetB (by omega)) ?_
                  rw [← hQ1]
                  show zW E (d) 112 22 [(2, 0), (0, a0), (0, a1), (0, a2), (9, 0)] [(0, 0)] m0 Q
                  refine zw_40_4 zr_112_22 ?_ ?_
                  · intro h31; omega
                  · intro h32
                    refine zw_push zr_112_25 ?_
                    refine zw_R zr_112_27 (by decide) zm_112 (v := (0, (-100000))) rfl ?_
                    rw [← hQ]; exact ⟨_, rfl, by omega, by omega, hI0, hF0, by first | exact Or.inl ⟨rfl, by omega⟩ | (obtain ⟨S, z1, z2⟩ := zz; exact Or.inr ⟨by omega, S, _, z1, zz, congr (congrArg HSub.hSub z2) qzz⟩)⟩
                · intro h34
                  refine zw_push zr_100_10 ?_
                  refine zw_42 zr_100_11 ?_
                  refine zw_R zr_100_15 (by decide) zm_100 (v := (0, 1)) (zRetB (by omega)) ?_
                  rw [← hQ2]
                  show zW E (d - 1) 101 7 [(0, a2)] [(0, 1)] m0 Q1
                  refine zw_R zr_101_7 (by decide) zm_101 (v := (0, 1)) (zRetB (by omega)) ?_
                  rw [← hQ1]
                  show zW E (d) 112 22 [(2, 0), (0, a0), (0, a1), (0, a2), (9, 0)] [(0, 1)] m0 Q
                  refine zw_40_4 zr_112_22 ?_ ?_
                  · intro h35
                    refine zw_7 zr_112_28 rfl ?_
                    refine zw_46r (s := 43) zr_112_29 rfl rfl rfl rfl ?_
                    refine zw_3 zr_112_32 rfl ?_
                    refine zw_3 zr_112_33 rfl ?_
                    refine zw_3 zr_112_34 rfl ?_
                    refine zw_C zr_112_35 (Or.inl rfl) zm_45 rfl rfl ⟨Nat.le_of_ble_eq_true rfl, Nat.le_of_ble_eq_true rfl, Nat.le_of_ble_eq_true rfl, rfl, by decide⟩ (by omega) (th_45 (d := d - 1) (by omega) hI0 (a0 := a0) (a1 := a1) (a2 := a2) (g0 := g1) (g1 := g2)  (F5 := F5) (F6 := F6) (F7 := F7) (F8 := F8) (F10 := F10) (F11 := F11) (F44 := F44) (F48 := F48) (F50 := F50) (F51 := F51) (F9 := F9) hg1 hg2 hG5 hG6 hG7 hG8 hG10 hG11 hG44 hG48 hG50 hG51 hG9 (by omega) (by omega) (by omega) ) ?_
                    rintro _ m36 ⟨r37, rfl, hr37a, hr37b, hIm36, gm36, po0_r37, po1_r37⟩
                    have hFm36 : zFr W_112 m0 m36 := hF0.trans gm36 rfl
                    have km36_1_0 : m36 1 0 = g0 := (gm36 1 0 rfl).trans hg0
                    have km36_1_1 : m36 1 1 = g1 := (gm36 1 1 rfl).trans hg1
                    have km36_1_2 : m36 1 2 = g2 := (gm36 1 2 rfl).trans hg2
                    have fm36_5 : m36 5 = F5 := (funext fun k => gm36 5 k rfl).trans hG5
                    have fm36_6 : m36 6 = F6 := (funext fun k => gm36 6 k rfl).trans hG6
                    have fm36_7 : m36 7 = F7 := (funext fun k => gm36 7 k rfl).trans hG7
                    have fm36_8 : m36 8 = F8 := (funext fun k => gm36 8 k rfl).trans hG8
                    have fm36_10 : m36 10 = F10 := (funext fun k => gm36 10 k rfl).trans hG10
                    have fm36_11 : m36 11 = F11 := (funext fun k => gm36 11 k rfl).trans hG11
                    obtain ⟨f38, fm36_44⟩ : ∃ f, m36 44 = f := ⟨_, rfl⟩
                    obtain ⟨f39, fm36_48⟩ : ∃ f, m36 48 = f := ⟨_, rfl⟩
                    obtain ⟨f40, fm36_50⟩ : ∃ f, m36 50 = f := ⟨_, rfl⟩
                    obtain ⟨f41, fm36_51⟩ : ∃ f, m36 51 = f := ⟨_, rfl⟩
                    have fm36_9 : m36 9 = F9 := (funext fun k => gm36 9 k rfl).trans hG9
                    show zW E (d) 112 38 [(2, 0), (0, a0), (0, a1), (0, a2), (9, 0)] [(0, r37)] m36 Q
                    refine zw_10 (L' := [(2, 0), (0, a0), (0, a1), (0, a2), (0, r37)]) zr_112_38 (Nat.le_of_ble_eq_true rfl) rfl ?_
                    refine zw_7 zr_112_40 rfl ?_
                    refine zw_46r (s := 43) zr_112_41 rfl rfl rfl rfl ?_
                    refine zw_3 zr_112_44 rfl ?_
                    refine zw_C zr_112_45 (Or.inl rfl) zm_16 rfl rfl ⟨Nat.le_of_ble_eq_true rfl, Nat.le_of_ble_eq_true rfl, Nat.le_of_ble_eq_true rfl, rfl, by decide⟩ (by omega) (th_16 (d := d - 1) (by omega) hIm36 (a0 := a0)   (F9 := F9) (F10 := F10) (F11 := F11) (F44 := f38) (F48 := f39) (F50 := f40) (F51 := f41)  fm36_9 fm36_10 fm36_11 fm36_44 fm36_48 fm36_50 fm36_51 (by omega) ) ?_
                    rintro _ m42 ⟨rfl, hIm42, gm42, po0_m42, po1_m42⟩
                    have hFm42 : zFr W_112 m0 m42 := hFm36.trans gm42 rfl
                    have km42_1_0 : m42 1 0 = g0 := (gm42 1 0 rfl).trans km36_1_0
                    have km42_1_1 : m42 1 1 = g1 := (gm42 1 1 rfl).trans km36_1_1
                    have km42_1_2 : m42 1 2 = g2 := (gm42 1 2 rfl).trans km36_1_2
                    have fm42_5 : m42 5 = F5 := (funext fun k => gm42 5 k rfl).trans fm36_5
                    have fm42_6 : m42 6 = F6 := (funext fun k => gm42 6 k rfl).trans fm36_6
                    have fm42_7 : m42 7 = F7 := (funext fun k => gm42 7 k rfl).trans fm36_7
                    have fm42_8 : m42 8 = F8 := (funext fun k => gm42 8 k rfl).trans fm36_8
                    have fm42_10 : m42 10 = F10 := (funext fun k => gm42 10 k rfl).trans fm36_10
                    have fm42_11 : m42 11 = F11 := (funext fun k => gm42 11 k rfl).trans fm36_11
                    obtain ⟨f43, fm42_44⟩ : ∃ f, m42 44 = f := ⟨_, rfl⟩
                    try rw [fm42_44] at po1_m42
                    obtain ⟨f44, fm42_48⟩ : ∃ f, m42 48 = f := ⟨_, rfl⟩
                    try rw [fm42_48] at po0_m42
                    obtain ⟨f45, fm42_50⟩ : ∃ f, m42 50 = f := ⟨_, rfl⟩
                    try rw [fm42_50] at po1_m42
                    obtain ⟨f46, fm42_51⟩ : ∃ f, m42 51 = f := ⟨_, rfl⟩
                    try rw [fm42_51] at po1_m42
                    have fm42_9 : m42 9 = F9 := (funext fun k => gm42 9 k rfl).trans fm36_9
                    obtain ⟨f47, ef47⟩ : ∃ v, m42 45 1 = v := ⟨_, rfl⟩
                    have bf47 := hIm42.fi (c := 45) (k := 1) rfl
                    rw [ef47] at bf47
                    rw [ef47] at po0_m42
                    obtain ⟨f48, ef48⟩ : ∃ v, m42 45 8 = v := ⟨_, rfl⟩
                    have bf48 := ib_45_8 hIm42
                    rw [ef48] at bf48
                    rw [ef48] at po0_m42
                    show zW E (d) 112 48 [(2, 0), (0, a0), (0, a1), (0, a2), (0, r37)] [] m42 Q
                    refine zw_7 zr_112_48 rfl ?_
                    refine zw_46r (s := 43) zr_112_49 rfl rfl rfl rfl ?_
                    refine zw_7 zr_112_52 rfl ?_
                    refine zw_46r (s := 1) zr_112_53 rfl rfl rfl rfl ?_
                    refine zw_46i zr_112_56 km42_1_1 rfl rfl rfl ?_
                    refine zw_C zr_112_59 (Or.inl rfl) zm_41 rfl rfl ⟨Nat.le_of_ble_eq_true rfl, Nat.le_of_ble_eq_true rfl, Nat.le_of_ble_eq_true rfl, rfl, by decide⟩ (by omega) (th_41 (d := d - 1) (by omega) hIm42 (a0 := g1) (g0 := f47) (g1 := f48) (g2 := g2) (gS := a0) (gV := F9 a0.toNat) (F5 := F5) (F6 := F6) (F7 := F7) (F8 := F8) (F10 := F10) (F11 := F11) (F44 := f43) (F48 := f44) (F50 := f45) (F51 := f46) ef47 ef48 km42_1_2 fm42_5 fm42_6 fm42_7 fm42_8 fm42_10 fm42_11 fm42_44 fm42_48 fm42_50 fm42_51 (by omega) (po0_m42) (zSn_0 po1_m42 rfl) (zPb_0 po1_m42 (by have z := ib_9 hI0 (k := a0.toNat) (by omega); rw [hG9] at z; omega))) ?_
                    rintro _ m54 ⟨rfl, hIm54, gm54, po0_m54, po1_m54⟩
                    have hFm54 : zFr W_112 m0 m54 := hFm42.trans gm54 rfl
                    have km54_1_0 : m54 1 0 = g0 := (gm54 1 0 rfl).trans km42_1_0
                    have km54_1_1 : m54 1 1 = g1 := (gm54 1 1 rfl).trans km42_1_1
                    have km54_1_2 : m54 1 2 = g2 := (gm54 1 2 rfl).trans km42_1_2
                    have km54_45_1 : m54 45 1 = f47 := (gm54 45 1 rfl).trans ef47
                    have km54_45_8 : m54 45 8 = f48 := (gm54 45 8 rfl).trans ef48
                    have fm54_5 : m54 5 = F5 := (funext fun k => gm54 5 k rfl).trans fm42_5
                    have fm54_6 : m54 6 = F6 := (funext fun k => gm54 6 k rfl).trans fm42_6
                    have fm54_7 : m54 7 = F7 := (funext fun k => gm54 7 k rfl).trans fm42_7
                    have fm54_8 : m54 8 = F8 := (funext fun k => gm54 8 k rfl).trans fm42_8
                    have fm54_10 : m54 10 = F10 := (funext fun k => gm54 10 k rfl).trans fm42_10
                    have fm54_11 : m54 11 = F11 := (funext fun k => gm54 11 k rfl).trans fm42_11
                    obtain ⟨f55, fm54_44⟩ : ∃ f, m54 44 = f := ⟨_, rfl⟩
                    try rw [fm54_44] at po0_m54
                    try rw [fm54_44] at po1_m54
                    have fm54_48 : m54 48 = f44 := (funext fun k => gm54 48 k rfl).trans fm42_48
                    obtain ⟨f56, fm54_50⟩ : ∃ f, m54 50 = f := ⟨_, rfl⟩
                    try rw [fm54_50] at po0_m54
                    try rw [fm54_50] at po1_m54
                    obtain ⟨f57, fm54_51⟩ : ∃ f, m54 51 = f := ⟨_, rfl⟩
                    try rw [fm54_51] at po0_m54
                    try rw [fm54_51] at po1_m54
                    have fm54_9 : m54 9 = F9 := (funext fun k => gm54 9 k rfl).trans fm42_9
                    show zW E (d) 112 62 [(2, 0), (0, a0), (0, a1), (0, a2), (0, r37)] [] m54 Q
                    refine zw_4 zr_112_62 rfl ?_
                    refine zw_7 zr_112_64 rfl ?_
                    refine zw_46r (s := 43) zr_112_65 rfl rfl rfl rfl ?_
                    refine zw_46r (s := 44) zr_112_68 rfl rfl rfl rfl ?_
                    refine zw_3 zr_112_71 rfl ?_
                    refine zw_48 (c := 44) (len := 10) zr_112_72 rfl rfl (by omega) (by omega) ?_
                    intro x58 ex58
                    have bx58 := hIm54.ra (c := 44) (len := 10) (k := (a1).toNat) rfl (by omega)
                    rw [← ex58] at bx58
                    have qx58 : x58 = f55 (a1).toNat := by rw [← fm54_44]; exact ex58
                    clear ex58
                    have hb := (zPb_at po1_m54 (p := a1) (by omega)).1
                    rw [← qx58] at hb
                    refine zw_17 zr_112_73 (by omega) ?_
                    refine zw_R zr_112_74 (by decide) zm_112 (v := (0, (r37 - x58))) rfl ?_
                    rw [← hQ]; exact ⟨_, rfl, by omega, by omega, hIm54, hFm54, by first | exact Or.inl ⟨rfl, by omega⟩ | (obtain ⟨S, z1, z2⟩ := po0_r37; exact Or.inr ⟨by omega, S, _, z1, po0_m54, congr (congrArg HSub.hSub z2) qx58⟩)⟩
                  · intro h62; omega

abbrev W_175 : List (Nat × Nat) := [(69, 5), (69, 6), (69, 7), (69, 9), (69, 11), (69, 13), (69, 17), (69, 18), (73, 1000), (74, 1000), (75, 1000), (76, 1000), (77, 1000), (78, 1000)]
set_option maxHeartbeats 8000000 in
theorem th_175 {E : zE} {d : Nat} {m0 : zM} {a0 : Int} {a1 : Int} {a2 : Int} {g0 : Int} {g1 : Int} {F70 : Nat → Int} {F76 : Nat → Int} {F77 : Nat → Int} {F78 : Nat → Int} (hd : 7 ≤ d) (hI0 : zInv m0) (hg0 : m0 70 822 = g0) (hg1 : m0 70 823 = g1) (hG70 : m0 70 = F70) (hG76 : m0 76 = F76) (hG77 : m0 77 = F77) (hG78 : m0 78 = F78) (ha0 : (-2147483648) ≤ a0 ∧ a0 ≤ 2147483647) (ha1 : (-2147483648) ≤ a1 ∧ a1 ≤ 2147483647) (ha2 : (-2147483648) ≤ a2 ∧ a2 ≤ 2147483647) : zC E d 175 [(2, 69), (0, a0), (0, a1), (0, a2)] m0 (fun v m' => ∃ r : Int, v = (0, r) ∧ (-2147483648) ≤ r ∧ r ≤ 2147483647 ∧ zInv m' ∧ zFr W_175 m0 m' ∧ ((r = -100000 ∧ (a0 < 0 ∨ 3 < a0 ∨ a1 < 0 ∨ g0 ≤ a1 ∨ a2 < 0 ∨ 99 < a2)) ∨ ((0 ≤ a0 ∧ a0 ≤ 3 ∧ 0 ≤ a1 ∧ a1 < g0 ∧ 0 ≤ a2 ∧ a2 ≤ 99) ∧ ∃ S T, zRn (psr (cht F70 a0) (fun i => F70 (91 + 6 * i)) (fun i => F70 (92 + 6 * i)) (fun i => F70 (93 + 6 * i)) (fun i => F70 (90 + 6 * i)) (fun i => F70 (94 + 6 * i))) (hsl (fun i => F70 (90 + 6 * i)) (fun i => F70 (91 + 6 * i)) (fun i => F70 (92 + 6 * i)) a2 a1) (F70 (450 + 52 * a0).toNat) S g1 ∧ zRn (psr (cht F70 a0) (fun i => F70 (91 + 6 * i)) (fun i => F70 (92 + 6 * i)) (fun i => F70 (93 + 6 * i)) (fun i => F70 (90 + 6 * i)) (fun i => F70 (94 + 6 * i))) (fun _ => 1) (F70 (450 + 52 * a0).toNat) T g1 ∧ r = S.1 a1.toNat - T.1 a1.toNat))) := by
  have hF0 : zFr W_175 m0 m0 := zFr.rfl
  have bg0 : 0 ≤ m0 70 822 ∧ m0 70 822 ≤ 10 := ib_70_players hI0 (by omega)
  rw [hg0] at bg0
  have bg1 : 0 ≤ m0 70 823 ∧ m0 70 823 ≤ 60 := ib_70_meetings hI0 (by omega)
  rw [hg1] at bg1
  generalize hQ : (fun (v : zV) (m' : zM) => ∃ r : Int, v = (0, r) ∧ (-2147483648) ≤ r ∧ r ≤ 2147483647 ∧ zInv m' ∧ zFr W_175 m0 m' ∧ ((r = -100000 ∧ (a0 < 0 ∨ 3 < a0 ∨ a1 < 0 ∨ g0 ≤ a1 ∨ a2 < 0 ∨ 99 < a2)) ∨ ((0 ≤ a0 ∧ a0 ≤ 3 ∧ 0 ≤ a1 ∧ a1 < g0 ∧ 0 ≤ a2 ∧ a2 ≤ 99) ∧ ∃ S T, zRn (psr (cht F70 a0) (fun i => F70 (91 + 6 * i)) (fun i => F70 (92 + 6 * i)) (fun i => F70 (93 + 6 * i)) (fun i => F70 (90 + 6 * i)) (fun i => F70 (94 + 6 * i))) (hsl (fun i => F70 (90 + 6 * i)) (fun i => F70 (91 + 6 * i)) (fun i => F70 (92 + 6 * i)) a2 a1) (F70 (450 + 52 * a0).toNat) S g1 ∧ zRn (psr (cht F70 a0) (fun i => F70 (91 + 6 * i)) (fun i => F70 (92 + 6 * i)) (fun i => F70 (93 + 6 * i)) (fun i => F70 (90 + 6 * i)) (fun i => F70 (94 + 6 * i))) (fun _ => 1) (F70 (450 + 52 * a0).toNat) T g1 ∧ r = S.1 a1.toNat - T.1 a1.toNat))) = Q
  show zW E d 175 0 [(2, 69), (0, a0), (0, a1), (0, a2), (9, 0), (9, 0)] [] m0 Q
  refine zw_3 zr_175_0 rfl ?_
  refine zw_C zr_175_1 (Or.inr rfl) zm_148 rfl rfl ⟨Nat.le_of_ble_eq_true rfl, Nat.le_of_ble_eq_true rfl, Nat.le_of_ble_eq_true rfl, rfl, by decide⟩ (by omega) (P := (fun v m' => zW E (d) 175 4 [(2, 69), (0, a0), (0, a1), (0, a2), (9, 0), (9, 0)] (if v.1 = 9 then [] else v :: []) m' Q)) ?_ (fun _ _ h => h)
  generalize hQ1 : (fun v m' => zW E (d) 175 4 [(2, 69), (0, a0), (0, a1), (0, a2), (9, 0), (9, 0)] (if v.1 = 9 then [] else v :: []) m' Q) = Q1
  show zW E (d - 1) 148 0 [(0, a0)] [] m0 Q1
  refine zw_3 zr_148_0 rfl ?_
  refine zw_36 zr_148_1 ?_
  refine zw_push zr_148_2 ?_
  refine zw_push zr_148_3 ?_
  refine zw_C zr_148_6 (Or.inr rfl) zm_140 rfl rfl ⟨Nat.le_of_ble_eq_true rfl, Nat.le_of_ble_eq_true rfl, Nat.le_of_ble_eq_true rfl, rfl, by decide⟩ (by omega) (P := (fun v m' => zW E (d - 1) 148 9 [(0, a0)] (if v.1 = 9 then [] else v :: []) m' Q1)) ?_ (fun _ _ h => h)
  generalize hQ2 : (fun v m' => zW E (d - 1) 148 9 [(0, a0)] (if v.1 = 9 then [] else v :: []) m' Q1) = Q2
  show zW E (d - 1 - 1) 140 0 [(1, a0), (9, 0), (1, 0), (9, 0), (1, 3), (9, 0)] [] m0 Q2
  refine zw_5 zr_140_0 rfl ?_
  refine zw_5 zr_140_1 rfl ?_
  refine zw_39_0 zr_140_2 zr_140_3 ?_ ?_
  · intro h1
    refine zw_push zr_140_17 ?_
    refine zw_R zr_140_18 (by decide) zm_140 (v := (0, 0)) (zRetB (by omega)) ?_
    rw [← hQ2]
    show zW E (d - 1) 148 9 [(0, a0)] [(0, 0)] m0 Q1
    refine zw_R zr_148_9 (by decide) zm_148 (v := (0, 0)) (zRetB (by omega)) ?_
    rw [← hQ1]
    show zW E (d) 175 4 [(2, 69), (0, a0), (0, a1), (0, a2), (9, 0), (9, 0)] [(0, 0)] m0 Q
    refine zw_40_1 zr_175_4 ?_ ?_
    · intro h2
      refine zw_push zr_175_22 ?_
      refine zw_R zr_175_24 (by decide) zm_175 (v := (0, (-100000))) rfl ?_
      rw [← hQ]; exact ⟨_, rfl, by omega, by omega, hI0, hF0, by first | exact Or.inl ⟨rfl, by omega⟩ | exact Or.inr ⟨by omega, (F76, F77, F78), _, (by have z := zz; rw [show zz = g1 by omega] at z; exact z), hGo.1, congr (congrArg HSub.hSub qzz) hAs⟩⟩
    · intro h4; omega
  · intro h5
    refine zw_5 zr_140_6 rfl ?_
    refine zw_6 zr_140_7 rfl ?_
    refine zw_39_2 zr_140_9 zr_140_10 ?_ ?_
    · intro h6
      refine zw_push zr_140_17 ?_
      refine zw_R zr_140_18 (by decide) zm_140 (v := (0, 0)) (zRetB (by omega)) ?_
      rw [← hQ2]
      show zW E (d - 1) 148 9 [(0, a0)] [(0, 0)] m0 Q1
      refine zw_R zr_148_9 (by decide) zm_148 (v := (0, 0)) (zRetB (by omega)) ?_
      rw [← hQ1]
      show zW E (d) 175 4 [(2, 69), (0, a0), (0, a1), (0, a2), (9, 0), (9, 0)] [(0, 0)] m0 Q
      refine zw_40_1 zr_175_4 ?_ ?_
      · intro h7
        refine zw_push zr_175_22 ?_
        refine zw_R zr_175_24 (by decide) zm_175 (v := (0, (-100000))) rfl ?_
        rw [← hQ]; exact ⟨_, rfl, by omega, by omega, hI0, hF0, by first | exact Or.inl ⟨rfl, by omega⟩ | exact Or.inr ⟨by omega, (F76, F77, F78), _, (by have z := zz; rw [show zz = g1 by omega] at z; exact z), hGo.1, congr (congrArg HSub.hSub qzz) hAs⟩⟩
      · intro h9; omega
    · intro h10
      refine zw_push zr_140_13 ?_
      refine zw_42 zr_140_14 ?_
      refine zw_R zr_140_18 (by decide) zm_140 (v := (0, 1)) (zRetB (by omega)) ?_
      rw [← hQ2]
      show zW E (d - 1) 148 9 [(0, a0)] [(0, 1)] m0 Q1
      refine zw_R zr_148_9 (by decide) zm_148 (v := (0, 1)) (zRetB (by omega)) ?_
      rw [← hQ1]
      show zW E (d) 175 4 [(2, 69), (0, a0), (0, a1), (0, a2), (9, 0), (9, 0)] [(0, 1)] m0 Q
      refine zw_40_1 zr_175_4 ?_ ?_
      · intro h11; omega
      · intro h12
        refine zw_7 zr_175_7 rfl ?_
        refine zw_3 zr_175_8 rfl ?_
        refine zw_C zr_175_9 (Or.inl rfl) zm_143 rfl rfl ⟨Nat.le_of_ble_eq_true rfl, Nat.le_of_ble_eq_true rfl, Nat.le_of_ble_eq_true rfl, rfl, by decide⟩ (by omega) (P := (fun v m' => zW E (d) 175 12 [(2, 69), (0, a0), (0, a1), (0, a2), (9, 0), (9, 0)] (if v.1 = 9 then [] else v :: []) m' Q)) ?_ (fun _ _ h => h)
        generalize hQ1 : (fun v m' => zW E (d) 175 12 [(2, 69), (0, a0), (0, a1), (0, a2), (9, 0), (9, 0)] (if v.1 = 9 then [] else v :: []) m' Q) = Q1
        show zW E (d - 1) 143 0 [(2, 69), (0, a1)] [] m0 Q1
        refine zw_3 zr_143_0 rfl ?_
        refine zw_36 zr_143_1 ?_
        refine zw_push zr_143_2 ?_
        refine zw_7 zr_143_3 rfl ?_
        refine zw_C zr_143_4 (Or.inl rfl) zm_141 rfl rfl ⟨Nat.le_of_ble_eq_true rfl, Nat.le_of_ble_eq_true rfl, Nat.le_of_ble_eq_true rfl, rfl, by decide⟩ (by omega) (P := (fun v m' => zW E (d - 1) 143 7 [(2, 69), (0, a1)] (if v.1 = 9 then [(1, 0), (1, a1)] else v :: [(1, 0), (1, a1)]) m' Q1)) ?_ (fun _ _ h => h)
        generalize hQ2 : (fun v m' => zW E (d - 1) 143 7 [(2, 69), (0, a1)] (if v.1 = 9 then [(1, 0), (1, a1)] else v :: [(1, 0), (1, a1)]) m' Q1) = Q2
        show zW E (d - 1 - 1) 141 0 [(2, 69)] [] m0 Q2
        refine zw_7 zr_141_0 rfl ?_
        refine zw_46r (s := 70) zr_141_1 rfl rfl rfl rfl ?_
        refine zw_push zr_141_4 ?_
        refine zw_48k (c := 70) (len := 826) zr_141_7 rfl rfl (by omega) (by omega) (show (822 : Int).toNat = 822 by omega) hg0 ?_
        refine zw_R zr_141_8 (by decide) zm_141 (v := (0, g0)) rfl ?_
        rw [← hQ2]
        show zW E (d - 1) 143 7 [(2, 69), (0, a1)] [(0, g0), (1, 0), (1, a1)] m0 Q1
        refine zw_push zr_143_7 ?_
        refine zw_17 zr_143_8 (by omega) ?_
        refine zw_36 zr_143_9 ?_
        refine zw_C zr_143_10 (Or.inr rfl) zm_140 rfl rfl ⟨Nat.le_of_ble_eq_true rfl, Nat.le_of_ble_eq_true rfl, Nat.le_of_ble_eq_true rfl, rfl, by decide⟩ (by omega) (P := (fun v m' => zW E (d - 1) 143 13 [(2, 69), (0, a1)] (if v.1 = 9 then [] else v :: []) m' Q1)) ?_ (fun _ _ h => h)
        generalize hQ2 : (fun v m' => zW E (d - 1) 143 13 [(2, 69), (0, a1)] (if v.1 = 9 then [] else v :: []) m' Q1) = Q2
        show zW E (d - 1 - 1) 140 0 [(1, a1), (9, 0), (1, 0), (9, 0), (1, (g0 - 1)), (9, 0)] [] m0 Q2
        refine zw_5 zr_140_0 rfl ?_
        refine zw_5 zr_140_1 rfl ?_
        refine zw_39_0 zr_140_2 zr_140_3 ?_ ?_
        · intro h13
          refine zw_push zr_140_17 ?_
          refine zw_R zr_140_18 (by decide) zm_140 (v := (0, 0)) (zRetB (by omega)) ?_
          rw [← hQ2]
          show zW E (d - 1) 143 13 [(2, 69), (0, a1)] [(0, 0)] m0 Q1
          refine zw_R zr_143_13 (by decide) zm_143 (v := (0, 0)) (zRetB (by omega)) ?_
          rw [← hQ1]
          show zW E (d) 175 12 [(2, 69), (0, a0), (0, a1), (0, a2), (9, 0), (9, 0)] [(0, 0)] m0 Q
          refine zw_40_1 zr_175_12 ?_ ?_
          · intro h14
            refine zw_push zr_175_22 ?_
            refine zw_R zr_175_24 (by decide) zm_175 (v := (0, (-100000))) rfl ?_
            rw [← hQ]; exact ⟨_, rfl, by omega, by omega, hI0, hF0, by first | exact Or.inl ⟨rfl, by omega⟩ | exact Or.inr ⟨by omega, (F76, F77, F78), _, (by have z := zz; rw [show zz = g1 by omega] at z; exact z), hGo.1, congr (congrArg HSub.hSub qzz) hAs⟩⟩
          · intro h16; omega
        · intro h17
          refine zw_5 zr_140_6 rfl ?_
          refine zw_6 zr_140_7 rfl ?_
          refine zw_39_2 zr_140_9 zr_140_10 ?_ ?_
          · intro h18
            refine zw_push zr_140_17 ?_
            refine zw_R zr_140_18 (by decide) zm_140 (v := (0, 0)) (zRetB (by omega)) ?_
            rw [← hQ2]
            show zW E (d - 1) 143 13 [(2, 69), (0, a1)] [(0, 0)] m0 Q1
            refine zw_R zr_143_13 (by decide) zm_143 (v := (0, 0)) (zRetB (by omega)) ?_
            rw [← hQ1]
            show zW E (d) 175 12 [(2, 69), (0, a0), (0, a1), (0, a2), (9, 0), (9, 0)] [(0, 0)] m0 Q
            refine zw_40_1 zr_175_12 ?_ ?_
            · intro h19
              refine zw_push zr_175_22 ?_
              refine zw_R zr_175_24 (by decide) zm_175 (v := (0, (-100000))) rfl ?_
              rw [← hQ]; exact ⟨_, rfl, by omega, by omega, hI0, hF0, by first | exact Or.inl ⟨rfl, by omega⟩ | exact Or.inr ⟨by omega, (F76, F77, F78), _, (by have z := zz; rw [show zz = g1 by omega] at z; exact z), hGo.1, congr (congrArg HSub.hSub qzz) hAs⟩⟩
            · intro h21; omega
          · intro h22
            refine zw_push zr_140_13 ?_
            refine zw_42 zr_140_14 ?_
            refine zw_R zr_140_18 (by decide) zm_140 (v := (0, 1)) (zRetB (by omega)) ?_
            rw [← hQ2]
            show zW E (d - 1) 143 13 [(2, 69), (0, a1)] [(0, 1)] m0 Q1
            refine zw_R zr_143_13 (by decide) zm_143 (v := (0, 1)) (zRetB (by omega)) ?_
            rw [← hQ1]
            show zW E (d) 175 12 [(2, 69), (0, a0), (0, a1), (0, a2), (9, 0), (9, 0)] [(0, 1)] m0 Q
            refine zw_40_1 zr_175_12 ?_ ?_
            · intro h23; omega
            · intro h24
              refine zw_3 zr_175_15 rfl ?_
              refine zw_C zr_175_16 (Or.inr rfl) zm_169 rfl rfl ⟨Nat.le_of_ble_eq_true rfl, Nat.le_of_ble_eq_true rfl, Nat.le_of_ble_eq_true rfl, rfl, by decide⟩ (by omega) (P := (fun v m' => zW E (d) 175 19 [(2, 69), (0, a0), (0, a1), (0, a2), (9, 0), (9, 0)] (if v.1 = 9 then [] else v :: []) m' Q)) ?_ (fun _ _ h => h)
              generalize hQ1 : (fun v m' => zW E (d) 175 19 [(2, 69), (0, a0), (0, a1), (0, a2), (9, 0), (9, 0)] (if v.1 = 9 then [] else v :: []) m' Q) = Q1
              show zW E (d - 1) 169 0 [(0, a2)] [] m0 Q1
              refine zw_3 zr_169_0 rfl ?_
              refine zw_36 zr_169_1 ?_
              refine zw_push zr_169_2 ?_
              refine zw_push zr_169_3 ?_
              refine zw_C zr_169_6 (Or.inr rfl) zm_140 rfl rfl ⟨Nat.le_of_ble_eq_true rfl, Nat.le_of_ble_eq_true rfl, Nat.le_of_ble_eq_true rfl, rfl, by decide⟩ (by omega) (P := (fun v m' => zW E (d - 1) 169 9 [(0, a2)] (if v.1 = 9 then [] else v :: []) m' Q1)) ?_ (fun _ _ h => h)
              generalize hQ2 : (fun v m' => zW E (d - 1) 169 9 [(0, a2)] (if v.1 = 9 then [] else v :: []) m' Q1) = Q2
              show zW E (d - 1 - 1) 140 0 [(1, a2), (9, 0), (1, 0), (9, 0), (1, 99), (9, 0)] [] m0 Q2
              refine zw_5 zr_140_0 rfl ?_
              refine zw_5 zr_140_1 rfl ?_
              refine zw_39_0 zr_140_2 zr_140_3 ?_ ?_
              · intro h25
                refine zw_push zr_140_17 ?_
                refine zw_R zr_140_18 (by decide) zm_140 (v := (0, 0)) (zRetB (by omega)) ?_
                rw [← hQ2]
                show zW E (d - 1) 169 9 [(0, a2)] [(0, 0)] m0 Q1
                refine zw_R zr_169_9 (by decide) zm_169 (v := (0, 0)) (zRetB (by omega)) ?_
                rw [← hQ1]
                show zW E (d) 175 19 [(2, 69), (0, a0), (0, a1), (0, a2), (9, 0), (9, 0)] [(0, 0)] m0 Q
                refine zw_40_4 zr_175_19 ?_ ?_
                · intro h26; omega
                · intro h27
                  refine zw_push zr_175_22 ?_
                  refine zw_R zr_175_24 (by decide) zm_175 (v := (0, (-100000))) rfl ?_
                  rw [← hQ]; exact ⟨_, rfl, by omega, by omega, hI0, hF0, by first | exact Or.inl ⟨rfl, by omega⟩ | exact Or.inr ⟨by omega, (F76, F77, F78), _, (by have z := zz; rw [show zz = g1 by omega] at z; exact z), hGo.1, congr (congrArg HSub.hSub qzz) hAs⟩⟩
              · intro h29
                refine zw_5 zr_140_6 rfl ?_
                refine zw_6 zr_140_7 rfl ?_
                refine zw_39_2 zr_140_9 zr_140_10 ?_ ?_
                · intro h30
                  refine zw_push zr_140_17 ?_
                  refine zw_R zr_140_18 (by decide) zm_140 (v := (0, 0)) (zRetB (by omega)) ?_
                  rw [← hQ2]
                  show zW E (d - 1) 169 9 [(0, a2)] [(0, 0)] m0 Q1
                  refine zw_R zr_169_9 (by decide) zm_169 (v := (0, 0)) (zRetB (by omega)) ?_
                  rw [← hQ1]
                  show zW E (d) 175 19 [(2, 69), (0, a0), (0, a1), (0, a2), (9, 0), (9, 0)] [(0, 0)] m0 Q
                  refine zw_40_4 zr_175_19 ?_ ?_
                  · intro h31; omega
                  · intro h32
                    refine zw_push zr_175_22 ?_
                    refine zw_R zr_175_24 (by decide) zm_175 (v := (0, (-100000))) rfl ?_
                    rw [← hQ]; exact ⟨_, rfl, by omega, by omega, hI0, hF0, by first | exact Or.inl ⟨rfl, by omega⟩ | exact Or.inr ⟨by omega, (F76, F77, F78), _, (by have z := zz; rw [show zz = g1 by omega] at z; exact z), hGo.1, congr (congrArg HSub.hSub qzz) hAs⟩⟩
                · intro h34
                  refine zw_push zr_140_13 ?_
                  refine zw_42 zr_140_14 ?_
                  refine zw_R zr_140_18 (by decide) zm_140 (v := (0, 1)) (zRetB (by omega)) ?_
                  rw [← hQ2]
                  show zW E (d - 1) 169 9 [(0, a2)] [(0, 1)] m0 Q1
                  refine zw_R zr_169_9 (by decide) zm_169 (v := (0, 1)) (zRetB (by omega)) ?_
                  rw [← hQ1]
                  show zW E (d) 175 19 [(2, 69), (0, a0), (0, a1), (0, a2), (9, 0), (9, 0)] [(0, 1)] m0 Q
                  refine zw_40_4 zr_175_19 ?_ ?_
                  · intro h35
                    refine zw_7 zr_175_25 rfl ?_
                    refine zw_3 zr_175_26 rfl ?_
                    refine zw_push zr_175_27 ?_
                    refine zw_C zr_175_29 (Or.inl rfl) zm_167 rfl rfl ⟨Nat.le_of_ble_eq_true rfl, Nat.le_of_ble_eq_true rfl, Nat.le_of_ble_eq_true rfl, rfl, by decide⟩ (by omega) (th_167 (d := d - 1) (by omega) hI0 (a0 := a0) (a1 := 99) (g0 := g1)  (F70 := F70) (F76 := F76) (F77 := F77) (F78 := F78) hg1 hG70 hG76 hG77 hG78 (by omega) (by omega) ) ?_
                    rintro _ m36 ⟨rfl, hIm36, gm36, po0_m36⟩
                    have hFm36 : zFr W_175 m0 m36 := hF0.trans gm36 rfl
                    have km36_70_822 : m36 70 822 = g0 := (gm36 70 822 rfl).trans hg0
                    have km36_70_823 : m36 70 823 = g1 := (gm36 70 823 rfl).trans hg1
                    have fm36_70 : m36 70 = F70 := (funext fun k => gm36 70 k rfl).trans hG70
                    obtain ⟨f37, fm36_76⟩ : ∃ f, m36 76 = f := ⟨_, rfl⟩
                    try rw [fm36_76] at po0_m36
                    obtain ⟨f38, fm36_77⟩ : ∃ f, m36 77 = f := ⟨_, rfl⟩
                    try rw [fm36_77] at po0_m36
                    obtain ⟨f39, fm36_78⟩ : ∃ f, m36 78 = f := ⟨_, rfl⟩
                    try rw [fm36_78] at po0_m36
                    show zW E (d) 175 32 [(2, 69), (0, a0), (0, a1), (0, a2), (9, 0), (9, 0)] [] m36 Q
                    refine zw_7 zr_175_32 rfl ?_
                    refine zw_46r (s := 76) zr_175_33 rfl rfl rfl rfl ?_
                    refine zw_3 zr_175_36 rfl ?_
                    refine zw_48 (c := 76) (len := 10) zr_175_37 rfl rfl (by omega) (by omega) ?_
                    intro x40 ex40
                    have bx40 := hIm36.ra (c := 76) (len := 10) (k := (a1).toNat) rfl (by omega)
                    rw [← ex40] at bx40
                    have qx40 : x40 = f37 (a1).toNat := by rw [← fm36_76]; exact ex40
                    clear ex40
                    have hAs := qx40
                    have hGo := zGt_9 po0_m36 (fun i hi => by have z := ib_70_m0 hI0 (k := 90 + 6 * i) (by omega); rw [hG70] at z; exact z.2)
                    have hba := (zPb_at hGo.2 (p := a1) (by omega)).1
                    rw [← hAs] at hba
                    refine zw_10 (L' := [(2, 69), (0, a0), (0, a1), (0, a2), (0, x40), (9, 0)]) zr_175_38 (Nat.le_of_ble_eq_true rfl) rfl ?_
                    have hV : 0 ≤ F70 (450 + 52 * a0).toNat ∧ F70 (450 + 52 * a0).toNat ≤ 9999 ∧ (0 : Int) = 0 := by have z := ib_70_s0 hI0 (k := (450 + 52 * a0).toNat) (by omega); rw [hG70] at z; omega
                    refine zw_7 zr_175_40 rfl ?_
                    refine zw_3 zr_175_41 rfl ?_
                    refine zw_C zr_175_42 (Or.inl rfl) zm_164 rfl rfl ⟨Nat.le_of_ble_eq_true rfl, Nat.le_of_ble_eq_true rfl, Nat.le_of_ble_eq_true rfl, rfl, by decide⟩ (by omega) (th_164 (d := d - 1) (by omega) hIm36 (a0 := a0)   (F70 := F70) (F76 := f37) (F77 := f38) (F78 := f39)  fm36_70 fm36_76 fm36_77 fm36_78 (by omega) ) ?_
                    rintro _ m46 ⟨rfl, hIm46, gm46, po0_m46⟩
                    have hFm46 : zFr W_175 m0 m46 := hFm36.trans gm46 rfl
                    have km46_70_822 : m46 70 822 = g0 := (gm46 70 822 rfl).trans km36_70_822
                    have km46_70_823 : m46 70 823 = g1 := (gm46 70 823 rfl).trans km36_70_823
                    have fm46_70 : m46 70 = F70 := (funext fun k => gm46 70 k rfl).trans fm36_70
                    obtain ⟨f47, fm46_76⟩ : ∃ f, m46 76 = f := ⟨_, rfl⟩
                    try rw [fm46_76] at po0_m46
                    obtain ⟨f48, fm46_77⟩ : ∃ f, m46 77 = f := ⟨_, rfl⟩
                    try rw [fm46_77] at po0_m46
                    obtain ⟨f49, fm46_78⟩ : ∃ f, m46 78 = f := ⟨_, rfl⟩
                    try rw [fm46_78] at po0_m46
                    show zW E (d) 175 45 [(2, 69), (0, a0), (0, a1), (0, a2), (0, x40), (9, 0)] [] m46 Q
                    refine zw_push zr_175_45 ?_
                    refine zw_10 (L' := [(2, 69), (0, a0), (0, a1), (0, a2), (0, x40), (0, 0)]) zr_175_46 (Nat.le_of_ble_eq_true rfl) rfl ?_
                    have lp48_55 : ∀ (nlp48_55 : Nat) (i50 : Int) (f52 : Nat → Int) (f53 : Nat → Int) (f54 : Nat → Int) (m51 : zM), zInv m51 → zFr W_175 m0 m51 → m51 70 822 = g0 → m51 70 823 = g1 → m51 70 = F70 → m51 76 = f52 → m51 77 = f53 → m51 78 = f54 → 0 ≤ i50 → i50 ≤ 60 → (zRn (psr (cht F70 a0) (fun i => F70 (91 + 6 * i)) (fun i => F70 (92 + 6 * i)) (fun i => F70 (93 + 6 * i)) (fun i => F70 (90 + 6 * i)) (fun i => F70 (94 + 6 * i))) (hsl (fun i => F70 (90 + 6 * i)) (fun i => F70 (91 + 6 * i)) (fun i => F70 (92 + 6 * i)) a2 a1) (F70 (450 + 52 * a0).toNat) (f52, f53, f54) i50) → (zPb (f52, f53, f54) i50) → (i50 ≤ g1) → (60 - i50).toNat < nlp48_55 → zW E (d) 175 48 [(2, 69), (0, a0), (0, a1), (0, a2), (0, x40), (0, i50)] [] m51 Q := by
                      intro nlp48_55
                      induction nlp48_55 with
                      | zero =>
                        intros
                        exact absurd (by assumption : _ < 0) (Nat.not_lt_zero _)
                      | succ nlp48_55 ihlp48_55 =>
                        intro i50 f52 f53 f54 m51 hIm51 hFm51 km51_70_822 km51_70_823 fm51_70 fm51_76 fm51_77 fm51_78 li50 ui50 hv0lp48_55 hv1lp48_55 hv2lp48_55 hmlp48_55
                        have z57 : F70 ((90 + (6 * i50)) + 0).toNat = F70 (90 + 6 * (i50).toNat) := congrArg F70 (by omega)
                        have z58 : F70 ((90 + (6 * i50)) + 1).toNat = F70 (91 + 6 * (i50).toNat) := congrArg F70 (by omega)
                        have z59 : F70 ((90 + (6 * i50)) + 2).toNat = F70 (92 + 6 * (i50).toNat) := congrArg F70 (by omega)
                        refine zw_4 zr_175_48 rfl ?_
                        refine zw_7 zr_175_50 rfl ?_
                        refine zw_C zr_175_51 (Or.inl rfl) zm_142 rfl rfl ⟨Nat.le_of_ble_eq_true rfl, Nat.le_of_ble_eq_true rfl, Nat.le_of_ble_eq_true rfl, rfl, by decide⟩ (by omega) (P := (fun v m' => zW E (d) 175 54 [(2, 69), (0, a0), (0, a1), (0, a2), (0, x40), (0, i50)] (if v.1 = 9 then [(0, i50)] else v :: [(0, i50)]) m' Q)) ?_ (fun _ _ h => h)
                        generalize hQ1 : (fun v m' => zW E (d) 175 54 [(2, 69), (0, a0), (0, a1), (0, a2), (0, x40), (0, i50)] (if v.1 = 9 then [(0, i50)] else v :: [(0, i50)]) m' Q) = Q1
                        show zW E (d - 1) 142 0 [(2, 69)] [] m51 Q1
                        refine zw_7 zr_142_0 rfl ?_
                        refine zw_46r (s := 70) zr_142_1 rfl rfl rfl rfl ?_
                        refine zw_push zr_142_4 ?_
                        refine zw_48k (c := 70) (len := 826) zr_142_7 rfl rfl (by omega) (by omega) (show (823 : Int).toNat = 823 by omega) km51_70_823 ?_
                        refine zw_R zr_142_8 (by decide) zm_142 (v := (0, g1)) rfl ?_
                        rw [← hQ1]
                        show zW E (d) 175 54 [(2, 69), (0, a0), (0, a1), (0, a2), (0, x40), (0, i50)] [(0, g1), (0, i50)] m51 Q
                        refine zw_41_3 zr_175_54 ?_ ?_
                        · intro h60
                          refine zw_7 zr_175_91 rfl ?_
                          refine zw_46r (s := 76) zr_175_92 rfl rfl rfl rfl ?_
                          refine zw_3 zr_175_95 rfl ?_
                          refine zw_48 (c := 76) (len := 10) zr_175_96 rfl rfl (by omega) (by omega) ?_
                          intro x61 ex61
                          have bx61 := hIm51.ra (c := 76) (len := 10) (k := (a1).toNat) rfl (by omega)
                          rw [← ex61] at bx61
                          have qx61 : x61 = f52 (a1).toNat := by rw [← fm51_76]; exact ex61
                          clear ex61
                          refine zw_4 zr_175_97 rfl ?_
                          have hbx := (zPb_at hv1lp48_55 (p := a1) (by omega)).1
                          rw [← qx61] at hbx
                          refine zw_17 zr_175_99 (by omega) ?_
                          refine zw_R zr_175_100 (by decide) zm_175 (v := (0, (x61 - x40))) rfl ?_
                          rw [← hQ]; exact ⟨_, rfl, by omega, by omega, hIm51, hFm51, by first | exact Or.inl ⟨rfl, by omega⟩ | exact Or.inr ⟨by omega, (f52, f53, f54), _, (by have z := hv0lp48_55; rw [show i50 = g1 by omega] at z; exact z), hGo.1, congr (congrArg HSub.hSub qx61) hAs⟩⟩
                        · intro h65
                          refine zw_7 zr_175_57 rfl ?_
                          refine zw_4 zr_175_58 rfl ?_
                          refine zw_push zr_175_60 ?_
                          refine zw_C zr_175_61 (Or.inl rfl) zm_144 rfl rfl ⟨Nat.le_of_ble_eq_true rfl, Nat.le_of_ble_eq_true rfl, Nat.le_of_ble_eq_true rfl, rfl, by decide⟩ (by omega) (P := (fun v m' => zW E (d) 175 64 [(2, 69), (0, a0), (0, a1), (0, a2), (0, x40), (0, i50)] (if v.1 = 9 then [] else v :: []) m' Q)) ?_ (fun _ _ h => h)
                          generalize hQ1 : (fun v m' => zW E (d) 175 64 [(2, 69), (0, a0), (0, a1), (0, a2), (0, x40), (0, i50)] (if v.1 = 9 then [] else v :: []) m' Q) = Q1
                          show zW E (d - 1) 144 0 [(2, 69), (0, i50), (0, 0)] [] m51 Q1
                          refine zw_7 zr_144_0 rfl ?_
                          refine zw_46r (s := 70) zr_144_1 rfl rfl rfl rfl ?_
                          refine zw_push zr_144_4 ?_
                          refine zw_push zr_144_6 ?_
                          refine zw_3 zr_144_8 rfl ?_
                          refine zw_18 zr_144_9 (by omega) ?_
                          refine zw_16 zr_144_10 (by omega) ?_
                          refine zw_3 zr_144_11 rfl ?_
                          refine zw_16 zr_144_12 (by omega) ?_
                          refine zw_48 (c := 70) (len := 826) zr_144_13 rfl rfl (by omega) (by omega) ?_
                          intro x66 ex66
                          have bx66 := ib_70_m0 hIm51 (k := (((90 + (6 * i50)) + 0)).toNat) (by omega)
                          rw [← ex66] at bx66
                          have qx66 : x66 = F70 (((90 + (6 * i50)) + 0)).toNat := by rw [← fm51_70]; exact ex66
                          clear ex66
                          refine zw_R zr_144_14 (by decide) zm_144 (v := (0, x66)) rfl ?_
                          rw [← hQ1]
                          show zW E (d) 175 64 [(2, 69), (0, a0), (0, a1), (0, a2), (0, x40), (0, i50)] [(0, x66)] m51 Q
                          refine zw_3 zr_175_64 rfl ?_
                          refine zw_41_4 zr_175_65 ?_ ?_
                          · intro h67
                            refine zw_7 zr_175_78 rfl ?_
                            refine zw_3 zr_175_79 rfl ?_
                            refine zw_4 zr_175_80 rfl ?_
                            refine zw_C zr_175_82 (Or.inl rfl) zm_166 rfl rfl ⟨Nat.le_of_ble_eq_true rfl, Nat.le_of_ble_eq_true rfl, Nat.le_of_ble_eq_true rfl, rfl, by decide⟩ (by omega) (th_166 (d := d - 1) (by omega) hIm51 (a0 := a0) (a1 := i50)  (gN := i50) (F70 := F70) (F76 := f52) (F77 := f53) (F78 := f54)  fm51_70 fm51_76 fm51_77 fm51_78 (by omega) (by omega) (hv1lp48_55) (by omega)) ?_
                            rintro _ m70 ⟨rfl, hIm70, gm70, po0_m70, po1_m70, po2_m70⟩
                            have hFm70 : zFr W_175 m0 m70 := hFm51.trans gm70 rfl
                            have km70_70_822 : m70 70 822 = g0 := (gm70 70 822 rfl).trans km51_70_822
                            have km70_70_823 : m70 70 823 = g1 := (gm70 70 823 rfl).trans km51_70_823
                            have fm70_70 : m70 70 = F70 := (funext fun k => gm70 70 k rfl).trans fm51_70
                            obtain ⟨f71, fm70_76⟩ : ∃ f, m70 76 = f := ⟨_, rfl⟩
                            try rw [fm70_76] at po0_m70
                            try rw [fm70_76] at po1_m70
                            obtain ⟨f72, fm70_77⟩ : ∃ f, m70 77 = f := ⟨_, rfl⟩
                            try rw [fm70_77] at po0_m70
                            try rw [fm70_77] at po1_m70
                            obtain ⟨f73, fm70_78⟩ : ∃ f, m70 78 = f := ⟨_, rfl⟩
                            try rw [fm70_78] at po0_m70
                            try rw [fm70_78] at po1_m70
                            obtain ⟨f74, ef74⟩ : ∃ v, m70 69 17 = v := ⟨_, rfl⟩
                            have bf74 := hIm70.fi (c := 69) (k := 17) rfl
                            rw [ef74] at bf74
                            rw [ef74] at po0_m70
                            rw [ef74] at po2_m70
                            obtain ⟨f75, ef75⟩ : ∃ v, m70 69 18 = v := ⟨_, rfl⟩
                            have bf75 := hIm70.fi (c := 69) (k := 18) rfl
                            rw [ef75] at bf75
                            rw [ef75] at po0_m70
                            rw [ef75] at po2_m70
                            show zW E (d) 175 85 [(2, 69), (0, a0), (0, a1), (0, a2), (0, x40), (0, i50)] [] m70 Q
                            refine zw_15 (c := 1) (L' := [(2, 69), (0, a0), (0, a1), (0, a2), (0, x40), (0, (i50 + 1))]) zr_175_85 rfl (by decide) (by omega) rfl ?_
                            refine zw_42 zr_175_88 ?_
                            exact zw_less (L := [(2, 69), (0, a0), (0, a1), (0, a2), (0, x40), (0, (i50 + 1))]) ⟨Or.inr rfl, Or.inr rfl, Or.inr rfl, Or.inr rfl, Or.inr rfl, Or.inr rfl, trivial⟩ (ihlp48_55 ((i50 + 1)) (f71) (f72) (f73) m70 hIm70 hFm70  km70_70_822 km70_70_823 fm70_70 fm70_76 fm70_77 fm70_78 (by omega) (by omega) (by first | exact zRn_y hv0lp48_55 po0_m70 (hsl_y (by omega)) (by omega) | exact zRn_n hv0lp48_55 (hsl_n (by omega)) (by omega)) (by first | exact po1_m70 | exact zPb_m hv1lp48_55 (by omega)) (by omega) (by omega))
                          · intro h78
                            refine zw_7 zr_175_68 rfl ?_
                            refine zw_4 zr_175_69 rfl ?_
                            refine zw_3 zr_175_71 rfl ?_
                            refine zw_C zr_175_72 (Or.inl rfl) zm_171 rfl rfl ⟨Nat.le_of_ble_eq_true rfl, Nat.le_of_ble_eq_true rfl, Nat.le_of_ble_eq_true rfl, rfl, by decide⟩ (by omega) (P := (fun v m' => zW E (d) 175 75 [(2, 69), (0, a0), (0, a1), (0, a2), (0, x40), (0, i50)] (if v.1 = 9 then [] else v :: []) m' Q)) ?_ (fun _ _ h => h)
                            generalize hQ1 : (fun v m' => zW E (d) 175 75 [(2, 69), (0, a0), (0, a1), (0, a2), (0, x40), (0, i50)] (if v.1 = 9 then [] else v :: []) m' Q) = Q1
                            show zW E (d - 1) 171 0 [(2, 69), (0, i50), (0, a1)] [] m51 Q1
                            refine zw_7 zr_171_0 rfl ?_
                            refine zw_3 zr_171_1 rfl ?_
                            refine zw_push zr_171_2 ?_
                            refine zw_C zr_171_3 (Or.inl rfl) zm_144 rfl rfl ⟨Nat.le_of_ble_eq_true rfl, Nat.le_of_ble_eq_true rfl, Nat.le_of_ble_eq_true rfl, rfl, by decide⟩ (by omega) (P := (fun v m' => zW E (d - 1) 171 6 [(2, 69), (0, i50), (0, a1)] (if v.1 = 9 then [] else v :: []) m' Q1)) ?_ (fun _ _ h => h)
                            generalize hQ2 : (fun v m' => zW E (d - 1) 171 6 [(2, 69), (0, i50), (0, a1)] (if v.1 = 9 then [] else v :: []) m' Q1) = Q2
                            show zW E (d - 1 - 1) 144 0 [(2, 69), (0, i50), (0, 1)] [] m51 Q2
                            refine zw_7 zr_144_0 rfl ?_
                            refine zw_46r (s := 70) zr_144_1 rfl rfl rfl rfl ?_
                            refine zw_push zr_144_4 ?_
                            refine zw_push zr_144_6 ?_
                            refine zw_3 zr_144_8 rfl ?_
                            refine zw_18 zr_144_9 (by omega) ?_
                            refine zw_16 zr_144_10 (by omega) ?_
                            refine zw_3 zr_144_11 rfl ?_
                            refine zw_16 zr_144_12 (by omega) ?_
                            refine zw_48 (c := 70) (len := 826) zr_144_13 rfl rfl (by omega) (by omega) ?_
                            intro x79 ex79
                            have bx79 := ib_70_m1 hIm51 (k := (((90 + (6 * i50)) + 1)).toNat) (by omega)
                            rw [← ex79] at bx79
                            have qx79 : x79 = F70 (((90 + (6 * i50)) + 1)).toNat := by rw [← fm51_70]; exact ex79
                            clear ex79
                            refine zw_R zr_144_14 (by decide) zm_144 (v := (0, x79)) rfl ?_
                            rw [← hQ2]
                            show zW E (d - 1) 171 6 [(2, 69), (0, i50), (0, a1)] [(0, x79)] m51 Q1
                            refine zw_3 zr_171_6 rfl ?_
                            refine zw_41_1 zr_171_7 ?_ ?_
                            · intro h80
                              refine zw_push zr_171_20 ?_
                              refine zw_42 zr_171_21 ?_
                              refine zw_R zr_171_25 (by decide) zm_171 (v := (0, 1)) (zRetB (by omega)) ?_
                              rw [← hQ1]
                              show zW E (d) 175 75 [(2, 69), (0, a0), (0, a1), (0, a2), (0, x40), (0, i50)] [(0, 1)] m51 Q
                              refine zw_40_4 zr_175_75 ?_ ?_
                              · intro h81
                                refine zw_15 (c := 1) (L' := [(2, 69), (0, a0), (0, a1), (0, a2), (0, x40), (0, (i50 + 1))]) zr_175_85 rfl (by decide) (by omega) rfl ?_
                                refine zw_42 zr_175_88 ?_
                                exact zw_less (L := [(2, 69), (0, a0), (0, a1), (0, a2), (0, x40), (0, (i50 + 1))]) ⟨Or.inr rfl, Or.inr rfl, Or.inr rfl, Or.inr rfl, Or.inr rfl, Or.inr rfl, trivial⟩ (ihlp48_55 ((i50 + 1)) (f52) (f53) (f54) m51 hIm51 hFm51  km51_70_822 km51_70_823 fm51_70 fm51_76 fm51_77 fm51_78 (by omega) (by omega) (by first | exact zRn_y hv0lp48_55 zz (hsl_y (by omega)) (by omega) | exact zRn_n hv0lp48_55 (hsl_n (by omega)) (by omega)) (by first | exact zz | exact zPb_m hv1lp48_55 (by omega)) (by omega) (by omega))
                              · intro h84; omega
                            · intro h85
                              refine zw_7 zr_171_10 rfl ?_
                              refine zw_3 zr_171_11 rfl ?_
                              refine zw_push zr_171_12 ?_
                              refine zw_C zr_171_13 (Or.inl rfl) zm_144 rfl rfl ⟨Nat.le_of_ble_eq_true rfl, Nat.le_of_ble_eq_true rfl, Nat.le_of_ble_eq_true rfl, rfl, by decide⟩ (by omega) (P := (fun v m' => zW E (d - 1) 171 16 [(2, 69), (0, i50), (0, a1)] (if v.1 = 9 then [] else v :: []) m' Q1)) ?_ (fun _ _ h => h)
                              generalize hQ2 : (fun v m' => zW E (d - 1) 171 16 [(2, 69), (0, i50), (0, a1)] (if v.1 = 9 then [] else v :: []) m' Q1) = Q2
                              show zW E (d - 1 - 1) 144 0 [(2, 69), (0, i50), (0, 2)] [] m51 Q2
                              refine zw_7 zr_144_0 rfl ?_
                              refine zw_46r (s := 70) zr_144_1 rfl rfl rfl rfl ?_
                              refine zw_push zr_144_4 ?_
                              refine zw_push zr_144_6 ?_
                              refine zw_3 zr_144_8 rfl ?_
                              refine zw_18 zr_144_9 (by omega) ?_
                              refine zw_16 zr_144_10 (by omega) ?_
                              refine zw_3 zr_144_11 rfl ?_
                              refine zw_16 zr_144_12 (by omega) ?_
                              refine zw_48 (c := 70) (len := 826) zr_144_13 rfl rfl (by omega) (by omega) ?_
                              intro x86 ex86
                              have bx86 := ib_70_m2 hIm51 (k := (((90 + (6 * i50)) + 2)).toNat) (by omega)
                              rw [← ex86] at bx86
                              have qx86 : x86 = F70 (((90 + (6 * i50)) + 2)).toNat := by rw [← fm51_70]; exact ex86
                              clear ex86
                              refine zw_R zr_144_14 (by decide) zm_144 (v := (0, x86)) rfl ?_
                              rw [← hQ2]
                              show zW E (d - 1) 171 16 [(2, 69), (0, i50), (0, a1)] [(0, x86)] m51 Q1
                              refine zw_3 zr_171_16 rfl ?_
                              refine zw_41_4 zr_171_17 ?_ ?_
                              · intro h87
                                refine zw_push zr_171_24 ?_
                                refine zw_R zr_171_25 (by decide) zm_171 (v := (0, 0)) (zRetB (by omega)) ?_
                                rw [← hQ1]
                                show zW E (d) 175 75 [(2, 69), (0, a0), (0, a1), (0, a2), (0, x40), (0, i50)] [(0, 0)] m51 Q
                                refine zw_40_4 zr_175_75 ?_ ?_
                                · intro h88; omega
                                · intro h89
                                  refine zw_7 zr_175_78 rfl ?_
                                  refine zw_3 zr_175_79 rfl ?_
                                  refine zw_4 zr_175_80 rfl ?_
                                  refine zw_C zr_175_82 (Or.inl rfl) zm_166 rfl rfl ⟨Nat.le_of_ble_eq_true rfl, Nat.le_of_ble_eq_true rfl, Nat.le_of_ble_eq_true rfl, rfl, by decide⟩ (by omega) (th_166 (d := d - 1) (by omega) hIm51 (a0 := a0) (a1 := i50)  (gN := i50) (F70 := F70) (F76 := f52) (F77 := f53) (F78 := f54)  fm51_70 fm51_76 fm51_77 fm51_78 (by omega) (by omega) (hv1lp48_55) (by omega)) ?_
                                  rintro _ m92 ⟨rfl, hIm92, gm92, po0_m92, po1_m92, po2_m92⟩
                                  have hFm92 : zFr W_175 m0 m92 := hFm51.trans gm92 rfl
                                  have km92_70_822 : m92 70 822 = g0 := (gm92 70 822 rfl).trans km51_70_822
                                  have km92_70_823 : m92 70 823 = g1 := (gm92 70 823 rfl).trans km51_70_823
                                  have fm92_70 : m92 70 = F70 := (funext fun k => gm92 70 k rfl).trans fm51_70
                                  obtain ⟨f93, fm92_76⟩ : ∃ f, m92 76 = f := ⟨_, rfl⟩
                                  try rw [fm92_76] at po0_m92
                                  try rw [fm92_76] at po1_m92
                                  obtain ⟨f94, fm92_77⟩ : ∃ f, m92 77 = f := ⟨_, rfl⟩
                                  try rw [fm92_77] at po0_m92
                                  try rw [fm92_77] at po1_m92
                                  obtain ⟨f95, fm92_78⟩ : ∃ f, m92 78 = f := ⟨_, rfl⟩
                                  try rw [fm92_78] at po0_m92
                                  try rw [fm92_78] at po1_m92
                                  obtain ⟨f96, ef96⟩ : ∃ v, m92 69 17 = v := ⟨_, rfl⟩
                                  have bf96 := hIm92.fi (c := 69) (k := 17) rfl
                                  rw [ef96] at bf96
                                  rw [ef96] at po0_m92
                                  rw [ef96] at po2_m92
                                  obtain ⟨f97, ef97⟩ : ∃ v, m92 69 18 = v := ⟨_, rfl⟩
                                  have bf97 := hIm92.fi (c := 69) (k := 18) rfl
                                  rw [ef97] at bf97
                                  rw [ef97] at po0_m92
                                  rw [ef97] at po2_m92
                                  show zW E (d) 175 85 [(2, 69), (0, a0), (0, a1), (0, a2), (0, x40), (0, i50)] [] m92 Q
                                  refine zw_15 (c := 1) (L' := [(2, 69), (0, a0), (0, a1), (0, a2), (0, x40), (0, (i50 + 1))]) zr_175_85 rfl (by decide) (by omega) rfl ?_
                                  refine zw_42 zr_175_88 ?_
                                  exact zw_less (L := [(2, 69), (0, a0), (0, a1), (0, a2), (0, x40), (0, (i50 + 1))]) ⟨Or.inr rfl, Or.inr rfl, Or.inr rfl, Or.inr rfl, Or.inr rfl, Or.inr rfl, trivial⟩ (ihlp48_55 ((i50 + 1)) (f93) (f94) (f95) m92 hIm92 hFm92  km92_70_822 km92_70_823 fm92_70 fm92_76 fm92_77 fm92_78 (by omega) (by omega) (by first | exact zRn_y hv0lp48_55 po0_m92 (hsl_y (by omega)) (by omega) | exact zRn_n hv0lp48_55 (hsl_n (by omega)) (by omega)) (by first | exact po1_m92 | exact zPb_m hv1lp48_55 (by omega)) (by omega) (by omega))
                              · intro h100
                                refine zw_push zr_171_20 ?_
                                refine zw_42 zr_171_21 ?_
                                refine zw_R zr_171_25 (by decide) zm_171 (v := (0, 1)) (zRetB (by omega)) ?_
                                rw [← hQ1]
                                show zW E (d) 175 75 [(2, 69), (0, a0), (0, a1), (0, a2), (0, x40), (0, i50)] [(0, 1)] m51 Q
                                refine zw_40_4 zr_175_75 ?_ ?_
                                · intro h101
                                  refine zw_15 (c := 1) (L' := [(2, 69), (0, a0), (0, a1), (0, a2), (0, x40), (0, (i50 + 1))]) zr_175_85 rfl (by decide) (by omega) rfl ?_
                                  refine zw_42 zr_175_88 ?_
                                  exact zw_less (L := [(2, 69), (0, a0), (0, a1), (0, a2), (0, x40), (0, (i50 + 1))]) ⟨Or.inr rfl, Or.inr rfl, Or.inr rfl, Or.inr rfl, Or.inr rfl, Or.inr rfl, trivial⟩ (ihlp48_55 ((i50 + 1)) (f52) (f53) (f54) m51 hIm51 hFm51  km51_70_822 km51_70_823 fm51_70 fm51_76 fm51_77 fm51_78 (by omega) (by omega) (by first | exact zRn_y hv0lp48_55 zz (hsl_y (by omega)) (by omega) | exact zRn_n hv0lp48_55 (hsl_n (by omega)) (by omega)) (by first | exact zz | exact zPb_m hv1lp48_55 (by omega)) (by omega) (by omega))
                                · intro h104; omega
                    exact lp48_55 _ (0) (f47) (f48) (f49) m46 hIm46 hFm46  km46_70_822 km46_70_823 fm46_70 fm46_76 fm46_77 fm46_78 (by omega) (by omega) (zRn_0 po0_m46 rfl) (zPb_r0 po0_m46 hV) (by omega) (Nat.lt_succ_self _)
                  · intro h107; omega

set_option maxHeartbeats 8000000 in
theorem th_46 {E : zE} {d : Nat} {m0 : zM} {a0 : Int} {gN : Int} {F6 : Nat → Int} {F7 : Nat → Int} {F8 : Nat → Int} {F44 : Nat → Int} {F50 : Nat → Int} {F51 : Nat → Int} (hd : 1 ≤ d) (hI0 : zInv m0) (hG6 : m0 6 = F6) (hG7 : m0 7 = F7) (hG8 : m0 8 = F8) (hG44 : m0 44 = F44) (hG50 : m0 50 = F50) (hG51 : m0 51 = F51) (ha0 : 0 ≤ a0 ∧ a0 ≤ 59) (hp0 : zPb (F44, F50, F51) gN) (hp1 : 0 ≤ gN ∧ gN ≤ 60) : zC E d 46 [(2, 43), (0, a0)] m0 (fun v m' => ∃ r : Int, v = (0, r) ∧ 0 ≤ r ∧ r ≤ 2 ∧ m0 = m' ∧ (r = pts (F44 (F6 a0.toNat).toNat) (F44 (F7 a0.toNat).toNat) (F8 a0.toNat))) := by
  generalize hQ : (fun (v : zV) (m' : zM) => ∃ r : Int, v = (0, r) ∧ 0 ≤ r ∧ r ≤ 2 ∧ m0 = m' ∧ (r = pts (F44 (F6 a0.toNat).toNat) (F44 (F7 a0.toNat).toNat) (F8 a0.toNat))) = Q
  show zW E d 46 0 [(2, 43), (0, a0), (9, 0)] [] m0 Q
  refine zw_7 zr_46_0 rfl ?_
  refine zw_46r (s := 44) zr_46_1 rfl rfl rfl rfl ?_
  refine zw_7 zr_46_4 rfl ?_
  refine zw_46r (s := 1) zr_46_5 rfl rfl rfl rfl ?_
  refine zw_46r (s := 6) zr_46_8 rfl rfl rfl rfl ?_
  refine zw_3 zr_46_11 rfl ?_
  refine zw_48 (c := 6) (len := 60) zr_46_12 rfl rfl (by omega) (by omega) ?_
  intro x1 ex1
  have bx1 := ib_6 hI0 (k := (a0).toNat) (by omega)
  rw [← ex1] at bx1
  have qx1 : x1 = F6 (a0).toNat := by rw [← hG6]; exact ex1
  clear ex1
  have hA := qx1
  refine zw_48 (c := 44) (len := 10) zr_46_13 rfl rfl (by omega) (by omega) ?_
  intro x3 ex3
  have bx3 := hI0.ra (c := 44) (len := 10) (k := (x1).toNat) rfl (by omega)
  rw [← ex3] at bx3
  have qx3 : x3 = F44 (x1).toNat := by rw [← hG44]; exact ex3
  clear ex3
  have hNa := qx3
  have hb1 := (zPb_at hp0 (p := x1) (by omega)).1
  rw [← hNa] at hb1
  refine zw_7 zr_46_14 rfl ?_
  refine zw_46r (s := 44) zr_46_15 rfl rfl rfl rfl ?_
  refine zw_7 zr_46_18 rfl ?_
  refine zw_46r (s := 1) zr_46_19 rfl rfl rfl rfl ?_
  refine zw_46r (s := 7) zr_46_22 rfl rfl rfl rfl ?_
  refine zw_3 zr_46_25 rfl ?_
  refine zw_48 (c := 7) (len := 60) zr_46_26 rfl rfl (by omega) (by omega) ?_
  intro x7 ex7
  have bx7 := ib_7 hI0 (k := (a0).toNat) (by omega)
  rw [← ex7] at bx7
  have qx7 : x7 = F7 (a0).toNat := by rw [← hG7]; exact ex7
  clear ex7
  have hB := qx7
  refine zw_48 (c := 44) (len := 10) zr_46_27 rfl rfl (by omega) (by omega) ?_
  intro x9 ex9
  have bx9 := hI0.ra (c := 44) (len := 10) (k := (x7).toNat) rfl (by omega)
  rw [← ex9] at bx9
  have qx9 : x9 = F44 (x7).toNat := by rw [← hG44]; exact ex9
  clear ex9
  have hNb := qx9
  have hb2 := (zPb_at hp0 (p := x7) (by omega)).1
  rw [← hNb] at hb2
  refine zw_17 zr_46_28 (by omega) ?_
  refine zw_9 (L' := [(2, 43), (0, a0), (0, (x3 - x9))]) zr_46_29 (Nat.le_of_ble_eq_true rfl) rfl ?_
  refine zw_7 zr_46_30 rfl ?_
  refine zw_46r (s := 1) zr_46_31 rfl rfl rfl rfl ?_
  refine zw_46r (s := 8) zr_46_34 rfl rfl rfl rfl ?_
  refine zw_3 zr_46_37 rfl ?_
  refine zw_48 (c := 8) (len := 60) zr_46_38 rfl rfl (by omega) (by omega) ?_
  intro x13 ex13
  have bx13 := ib_8 hI0 (k := (a0).toNat) (by omega)
  rw [← ex13] at bx13
  have qx13 : x13 = F8 (a0).toNat := by rw [← hG8]; exact ex13
  clear ex13
  have hE := qx13
  by_cases h15 : x13 = 0
  · refine zw_112 (off := 25) (t := 64) zr_46_39 (by rw [h15]; rfl) rfl ?_
    refine zw_3 zr_46_64 rfl ?_
    refine zw_40_3 zr_46_65 ?_ ?_
    · intro h16
      refine zw_push zr_46_72 ?_
      refine zw_R zr_46_73 (by decide) zm_46 (v := (0, 0)) rfl ?_
      rw [← hQ]; exact ⟨_, rfl, by omega, by omega, rfl, by rw [← hA, ← hB, ← hE, ← hNa, ← hNb]; exact pts_e (by omega)⟩
    · intro h18
      refine zw_push zr_46_68 ?_
      refine zw_42 zr_46_69 ?_
      refine zw_R zr_46_73 (by decide) zm_46 (v := (0, 2)) rfl ?_
      rw [← hQ]; exact ⟨_, rfl, by omega, by omega, rfl, by rw [← hA, ← hB, ← hE, ← hNa, ← hNb]; exact pts_e (by omega)⟩
  by_cases h20 : x13 = 2
  · refine zw_112 (off := 35) (t := 74) zr_46_39 (by rw [h20]; rfl) rfl ?_
    refine zw_3 zr_46_74 rfl ?_
    refine zw_40_5 zr_46_75 ?_ ?_
    · intro h21
      refine zw_push zr_46_82 ?_
      refine zw_R zr_46_83 (by decide) zm_46 (v := (0, 0)) rfl ?_
      rw [← hQ]; exact ⟨_, rfl, by omega, by omega, rfl, by rw [← hA, ← hB, ← hE, ← hNa, ← hNb]; exact pts_e (by omega)⟩
    · intro h23
      refine zw_push zr_46_78 ?_
      refine zw_42 zr_46_79 ?_
      refine zw_R zr_46_83 (by decide) zm_46 (v := (0, 2)) rfl ?_
      rw [← hQ]; exact ⟨_, rfl, by omega, by omega, rfl, by rw [← hA, ← hB, ← hE, ← hNa, ← hNb]; exact pts_e (by omega)⟩
  refine zw_112 (off := 45) (t := 84) zr_46_39 (zlsw_df (by simp; omega)) rfl ?_
  refine zw_3 zr_46_84 rfl ?_
  refine zw_122x zr_46_85 (Nat.le_of_ble_eq_true rfl) (by omega) (by omega) ?_
  intro x25 hx25a
  refine zw_push zr_46_88 ?_
  refine zw_41_2 zr_46_90 ?_ ?_
  · intro h26
    refine zw_push zr_46_97 ?_
    refine zw_R zr_46_98 (by decide) zm_46 (v := (0, 0)) rfl ?_
    rw [← hQ]; exact ⟨_, rfl, by omega, by omega, rfl, by rw [← hA, ← hB, ← hE, ← hNa, ← hNb]; exact pts_e (by omega)⟩
  · intro h28
    refine zw_push zr_46_93 ?_
    refine zw_42 zr_46_94 ?_
    refine zw_R zr_46_98 (by decide) zm_46 (v := (0, 1)) rfl ?_
    rw [← hQ]; exact ⟨_, rfl, by omega, by omega, rfl, by rw [← hA, ← hB, ← hE, ← hNa, ← hNb]; exact pts_e (by omega)⟩

abbrev W_47 : List (Nat × Nat) := [(43, 5), (44, 1000), (45, 1), (45, 5), (45, 6), (45, 7), (45, 8), (45, 9), (46, 1000), (47, 1000), (48, 1000), (49, 1000), (50, 1000), (51, 1000)]
set_option maxHeartbeats 8000000 in
theorem th_47 {E : zE} {d : Nat} {m0 : zM} {a0 : Int} {g0 : Int} {g1 : Int} {F5 : Nat → Int} {F6 : Nat → Int} {F7 : Nat → Int} {F8 : Nat → Int} {F10 : Nat → Int} {F11 : Nat → Int} {F44 : Nat → Int} {F48 : Nat → Int} {F50 : Nat → Int} {F51 : Nat → Int} {F9 : Nat → Int} (hd : 95 ≤ d) (hI0 : zInv m0) (hg0 : m0 1 1 = g0) (hg1 : m0 1 2 = g1) (hG5 : m0 5 = F5) (hG6 : m0 6 = F6) (hG7 : m0 7 = F7) (hG8 : m0 8 = F8) (hG10 : m0 10 = F10) (hG11 : m0 11 = F11) (hG44 : m0 44 = F44) (hG48 : m0 48 = F48) (hG50 : m0 50 = F50) (hG51 : m0 51 = F51) (hG9 : m0 9 = F9) (ha0 : 0 ≤ a0 ∧ a0 ≤ 3) : zC E d 47 [(2, 43), (0, a0)] m0 (fun v m' => ∃ r : Int, v = (0, r) ∧ 0 ≤ r ∧ r ≤ 200 ∧ zInv m' ∧ zFr W_47 m0 m' ∧ (∃ S, zAn (pst (chc F11 F10 a0) F6 F7 F8 F5 (zbt g1)) (fun _ => 1) (cft F6 F7 F8 (zbt g1)) (F9 a0.toNat) S r g0) ∧ (∃ f y, zPc (chc F11 F10 a0) f y (m' 45 1))) := by
  have hF0 : zFr W_47 m0 m0 := zFr.rfl
  have bg0 := ib_1_1 hI0
  rw [hg0] at bg0
  have bg1 := ib_1_2 hI0
  rw [hg1] at bg1
  generalize hQ : (fun (v : zV) (m' : zM) => ∃ r : Int, v = (0, r) ∧ 0 ≤ r ∧ r ≤ 200 ∧ zInv m' ∧ zFr W_47 m0 m' ∧ (∃ S, zAn (pst (chc F11 F10 a0) F6 F7 F8 F5 (zbt g1)) (fun _ => 1) (cft F6 F7 F8 (zbt g1)) (F9 a0.toNat) S r g0) ∧ (∃ f y, zPc (chc F11 F10 a0) f y (m' 45 1))) = Q
  show zW E d 47 0 [(2, 43), (0, a0), (9, 0), (9, 0)] [] m0 Q
  refine zw_7 zr_47_0 rfl ?_
  refine zw_3 zr_47_1 rfl ?_
  refine zw_C zr_47_2 (Or.inl rfl) zm_16 rfl rfl ⟨Nat.le_of_ble_eq_true rfl, Nat.le_of_ble_eq_true rfl, Nat.le_of_ble_eq_true rfl, rfl, by decide⟩ (by omega) (th_16 (d := d - 1) (by omega) hI0 (a0 := a0)   (F9 := F9) (F10 := F10) (F11 := F11) (F44 := F44) (F48 := F48) (F50 := F50) (F51 := F51)  hG9 hG10 hG11 hG44 hG48 hG50 hG51 (by omega) ) ?_
  rintro _ m1 ⟨rfl, hIm1, gm1, po0_m1, po1_m1⟩
  have hFm1 : zFr W_47 m0 m1 := hF0.trans gm1 rfl
  have km1_1_1 : m1 1 1 = g0 := (gm1 1 1 rfl).trans hg0
  have km1_1_2 : m1 1 2 = g1 := (gm1 1 2 rfl).trans hg1
  have fm1_5 : m1 5 = F5 := (funext fun k => gm1 5 k rfl).trans hG5
  have fm1_6 : m1 6 = F6 := (funext fun k => gm1 6 k rfl).trans hG6
  have fm1_7 : m1 7 = F7 := (funext fun k => gm1 7 k rfl).trans hG7
  have fm1_8 : m1 8 = F8 := (funext fun k => gm1 8 k rfl).trans hG8
  have fm1_10 : m1 10 = F10 := (funext fun k => gm1 10 k rfl).trans hG10
  have fm1_11 : m1 11 = F11 := (funext fun k => gm1 11 k rfl).trans hG11
  obtain ⟨f2, fm1_44⟩ : ∃ f, m1 44 = f := ⟨_, rfl⟩
  try rw [fm1_44] at po1_m1
  obtain ⟨f3, fm1_48⟩ : ∃ f, m1 48 = f := ⟨_, rfl⟩
  try rw [fm1_48] at po0_m1
  obtain ⟨f4, fm1_50⟩ : ∃ f, m1 50 = f := ⟨_, rfl⟩
  try rw [fm1_50] at po1_m1
  obtain ⟨f5, fm1_51⟩ : ∃ f, m1 51 = f := ⟨_, rfl⟩
  try rw [fm1_51] at po1_m1
  have fm1_9 : m1 9 = F9 := (funext fun k => gm1 9 k rfl).trans hG9
  obtain ⟨f6, ef6⟩ : ∃ v, m1 45 1 = v := ⟨_, rfl⟩
  have bf6 := hIm1.fi (c := 45) (k := 1) rfl
  rw [ef6] at bf6
  rw [ef6] at po0_m1
  obtain ⟨f7, ef7⟩ : ∃ v, m1 45 8 = v := ⟨_, rfl⟩
  have bf7 := ib_45_8 hIm1
  rw [ef7] at bf7
  rw [ef7] at po0_m1
  show zW E (d) 47 5 [(2, 43), (0, a0), (9, 0), (9, 0)] [] m1 Q
  refine zw_push zr_47_5 ?_
  refine zw_9 (L' := [(2, 43), (0, a0), (0, 0), (9, 0)]) zr_47_6 (Nat.le_of_ble_eq_true rfl) rfl ?_
  refine zw_push zr_47_7 ?_
  refine zw_9 (L' := [(2, 43), (0, a0), (0, 0), (0, 0)]) zr_47_8 (Nat.le_of_ble_eq_true rfl) rfl ?_
  have lp9_14 : ∀ (nlp9_14 : Nat) (i8 i9 : Int) (f11 : Nat → Int) (f12 : Nat → Int) (f13 : Nat → Int) (m10 : zM), zInv m10 → zFr W_47 m0 m10 → m10 1 1 = g0 → m10 1 2 = g1 → m10 45 1 = f6 → m10 45 8 = f7 → m10 5 = F5 → m10 6 = F6 → m10 7 = F7 → m10 8 = F8 → m10 10 = F10 → m10 11 = F11 → m10 44 = f11 → m10 48 = f3 → m10 50 = f12 → m10 51 = f13 → m10 9 = F9 → 0 ≤ i8 → i8 ≤ 200 → 0 ≤ i9 → i9 ≤ 60 → (zAn (pst (chc F11 F10 a0) F6 F7 F8 F5 (zbt g1)) (fun _ => 1) (cft F6 F7 F8 (zbt g1)) (F9 a0.toNat) (f11, f12, f13) i8 i9) → (zPb (f11, f12, f13) i9) → (0 ≤ i8 ∧ i8 ≤ 2 * i9 ∧ i9 ≤ g0) → (60 - i9).toNat < nlp9_14 → zW E (d) 47 9 [(2, 43), (0, a0), (0, i8), (0, i9)] [] m10 Q := by
    intro nlp9_14
    induction nlp9_14 with
    | zero =>
      intros
      exact absurd (by assumption : _ < 0) (Nat.not_lt_zero _)
    | succ nlp9_14 ihlp9_14 =>
      intro i8 i9 f11 f12 f13 m10 hIm10 hFm10 km10_1_1 km10_1_2 km10_45_1 km10_45_8 fm10_5 fm10_6 fm10_7 fm10_8 fm10_10 fm10_11 fm10_44 fm10_48 fm10_50 fm10_51 fm10_9 li8 ui8 li9 ui9 hv0lp9_14 hv1lp9_14 hv2lp9_14 hmlp9_14
      have z16 := zbt_01 g1 (i9).toNat
      refine zw_3 zr_47_9 rfl ?_
      refine zw_7 zr_47_10 rfl ?_
      refine zw_46r (s := 1) zr_47_11 rfl rfl rfl rfl ?_
      refine zw_46i zr_47_14 km10_1_1 rfl rfl rfl ?_
      refine zw_41_3 zr_47_17 ?_ ?_
      · intro h17
        refine zw_3 zr_47_50 rfl ?_
        refine zw_R zr_47_51 (by decide) zm_47 (v := (0, i8)) rfl ?_
        rw [← hQ]; exact ⟨_, rfl, by omega, by omega, hIm10, hFm10, ⟨(f11, f12, f13), by have z := hv0lp9_14; rw [show i9 = g0 by omega] at z; exact z⟩, ⟨f3, f7, by rw [km10_45_1]; assumption⟩⟩
      · intro h20
        refine zw_7 zr_47_20 rfl ?_
        refine zw_46r (s := 1) zr_47_21 rfl rfl rfl rfl ?_
        refine zw_3 zr_47_24 rfl ?_
        refine zw_C zr_47_25 (Or.inl rfl) zm_18 rfl rfl ⟨Nat.le_of_ble_eq_true rfl, Nat.le_of_ble_eq_true rfl, Nat.le_of_ble_eq_true rfl, rfl, by decide⟩ (by omega) (P := (fun v m' => zW E (d) 47 28 [(2, 43), (0, a0), (0, i8), (0, i9)] (if v.1 = 9 then [] else v :: []) m' Q)) ?_ (fun _ _ h => h)
        generalize hQ1 : (fun v m' => zW E (d) 47 28 [(2, 43), (0, a0), (0, i8), (0, i9)] (if v.1 = 9 then [] else v :: []) m' Q) = Q1
        show zW E (d - 1) 18 0 [(2, 1), (0, i9)] [] m10 Q1
        refine zw_7 zr_18_0 rfl ?_
        refine zw_46l zr_18_1 km10_1_2 rfl rfl rfl ?_
        refine zw_3 zr_18_4 rfl ?_
        refine zw_34p zr_18_5 (by omega) (by omega) ?_
        intro x21 hx21c hx21a hx21b
        refine zw_push zr_18_6 ?_
        refine zw_30o zr_18_7 (by omega) ?_
        refine zw_push zr_18_8 ?_
        refine zw_39_1 zr_18_9 zr_18_10 ?_ ?_
        · intro h22
          refine zw_push zr_18_17 ?_
          refine zw_R zr_18_18 (by decide) zm_18 (v := (0, 0)) (zRetB (by omega)) ?_
          rw [← hQ1]
          show zW E (d) 47 28 [(2, 43), (0, a0), (0, i8), (0, i9)] [(0, 0)] m10 Q
          refine zw_40_4 zr_47_28 ?_ ?_
          · intro h23; omega
          · intro h24
            refine zw_3 zr_47_31 rfl ?_
            refine zw_7 zr_47_32 rfl ?_
            refine zw_3 zr_47_33 rfl ?_
            refine zw_C zr_47_34 (Or.inl rfl) zm_46 rfl rfl ⟨Nat.le_of_ble_eq_true rfl, Nat.le_of_ble_eq_true rfl, Nat.le_of_ble_eq_true rfl, rfl, by decide⟩ (by omega) (th_46 (d := d - 1) (by omega) hIm10 (a0 := i9)  (gN := i9) (F6 := F6) (F7 := F7) (F8 := F8) (F44 := f11) (F50 := f12) (F51 := f13)  fm10_6 fm10_7 fm10_8 fm10_44 fm10_50 fm10_51 (by omega) (hv1lp9_14) (by omega)) ?_
            rintro _ _ ⟨r27, rfl, hr27a, hr27b, rfl, po0_r27⟩
            show zW E (d) 47 37 [(2, 43), (0, a0), (0, i8), (0, i9)] [(0, r27), (0, i8)] m10 Q
            refine zw_16 zr_47_37 (by omega) ?_
            refine zw_9 (L' := [(2, 43), (0, a0), (0, (i8 + r27)), (0, i9)]) zr_47_38 (Nat.le_of_ble_eq_true rfl) rfl ?_
            refine zw_7 zr_47_39 rfl ?_
            refine zw_3 zr_47_40 rfl ?_
            refine zw_C zr_47_41 (Or.inl rfl) zm_26 rfl rfl ⟨Nat.le_of_ble_eq_true rfl, Nat.le_of_ble_eq_true rfl, Nat.le_of_ble_eq_true rfl, rfl, by decide⟩ (by omega) (th_26 (d := d - 1) (by omega) hIm10 (a0 := i9) (g0 := f6) (g1 := f7) (g2 := g1) (gS := a0) (gN := i9) (F5 := F5) (F6 := F6) (F7 := F7) (F8 := F8) (F10 := F10) (F11 := F11) (F44 := f11) (F48 := f3) (F50 := f12) (F51 := f13) km10_45_1 km10_45_8 km10_1_2 fm10_5 fm10_6 fm10_7 fm10_8 fm10_10 fm10_11 fm10_44 fm10_48 fm10_50 fm10_51 (by omega) (by assumption) (hv1lp9_14) (by omega)) ?_
            rintro _ m32 ⟨rfl, hIm32, gm32, po0_m32, po1_m32, po2_m32⟩
            have hFm32 : zFr W_47 m0 m32 := hFm10.trans gm32 rfl
            have km32_1_1 : m32 1 1 = g0 := (gm32 1 1 rfl).trans km10_1_1
            have km32_1_2 : m32 1 2 = g1 := (gm32 1 2 rfl).trans km10_1_2
            have km32_45_1 : m32 45 1 = f6 := (gm32 45 1 rfl).trans km10_45_1
            have km32_45_8 : m32 45 8 = f7 := (gm32 45 8 rfl).trans km10_45_8
            have fm32_5 : m32 5 = F5 := (funext fun k => gm32 5 k rfl).trans fm10_5
            have fm32_6 : m32 6 = F6 := (funext fun k => gm32 6 k rfl).trans fm10_6
            have fm32_7 : m32 7 = F7 := (funext fun k => gm32 7 k rfl).trans fm10_7
            have fm32_8 : m32 8 = F8 := (funext fun k => gm32 8 k rfl).trans fm10_8
            have fm32_10 : m32 10 = F10 := (funext fun k => gm32 10 k rfl).trans fm10_10
            have fm32_11 : m32 11 = F11 := (funext fun k => gm32 11 k rfl).trans fm10_11
            obtain ⟨f33, fm32_44⟩ : ∃ f, m32 44 = f := ⟨_, rfl⟩
            try rw [fm32_44] at po0_m32
            try rw [fm32_44] at po1_m32
            have fm32_48 : m32 48 = f3 := (funext fun k => gm32 48 k rfl).trans fm10_48
            obtain ⟨f34, fm32_50⟩ : ∃ f, m32 50 = f := ⟨_, rfl⟩
            try rw [fm32_50] at po0_m32
            try rw [fm32_50] at po1_m32
            obtain ⟨f35, fm32_51⟩ : ∃ f, m32 51 = f := ⟨_, rfl⟩
            try rw [fm32_51] at po0_m32
            try rw [fm32_51] at po1_m32
            have fm32_9 : m32 9 = F9 := (funext fun k => gm32 9 k rfl).trans fm10_9
            obtain ⟨f36, ef36⟩ : ∃ v, m32 43 5 = v := ⟨_, rfl⟩
            have bf36 := hIm32.fi (c := 43) (k := 5) rfl
            rw [ef36] at bf36
            rw [ef36] at po0_m32
            rw [ef36] at po2_m32
            show zW E (d) 47 44 [(2, 43), (0, a0), (0, (i8 + r27)), (0, i9)] [] m32 Q
            refine zw_15 (c := 1) (L' := [(2, 43), (0, a0), (0, (i8 + r27)), (0, (i9 + 1))]) zr_47_44 rfl (by decide) (by omega) rfl ?_
            refine zw_42 zr_47_47 ?_
            exact zw_less (L := [(2, 43), (0, a0), (0, (i8 + r27)), (0, (i9 + 1))]) ⟨Or.inr rfl, Or.inr rfl, Or.inr rfl, Or.inr rfl, trivial⟩ (ihlp9_14 ((i8 + r27)) ((i9 + 1)) (f33) (f34) (f35) m32 hIm32 hFm32  km32_1_1 km32_1_2 km32_45_1 km32_45_8 fm32_5 fm32_6 fm32_7 fm32_8 fm32_10 fm32_11 fm32_44 fm32_48 fm32_50 fm32_51 fm32_9 (by omega) (by omega) (by omega) (by omega) (by first | exact zAn_y hv0lp9_14 po0_m32 (by rfl) (cft_e rfl (Or.inl ⟨by omega, po0_r27⟩) (Or.inr ⟨rfl, rfl, rfl⟩)) (by omega) | exact zAn_y (x := 0) hv0lp9_14 po0_r27 (by rfl) (cft_e (a := 0) (b := 0) (e := 0) rfl (Or.inr ⟨by omega, rfl⟩) (Or.inl (by omega))) (by omega)) (by first | exact po1_m32 | exact zz) (by omega) (by omega))
        · intro h39
          refine zw_push zr_18_13 ?_
          refine zw_42 zr_18_14 ?_
          refine zw_R zr_18_18 (by decide) zm_18 (v := (0, 1)) (zRetB (by omega)) ?_
          rw [← hQ1]
          show zW E (d) 47 28 [(2, 43), (0, a0), (0, i8), (0, i9)] [(0, 1)] m10 Q
          refine zw_40_4 zr_47_28 ?_ ?_
          · intro h40
            refine zw_7 zr_47_39 rfl ?_
            refine zw_3 zr_47_40 rfl ?_
            refine zw_C zr_47_41 (Or.inl rfl) zm_26 rfl rfl ⟨Nat.le_of_ble_eq_true rfl, Nat.le_of_ble_eq_true rfl, Nat.le_of_ble_eq_true rfl, rfl, by decide⟩ (by omega) (th_26 (d := d - 1) (by omega) hIm10 (a0 := i9) (g0 := f6) (g1 := f7) (g2 := g1) (gS := a0) (gN := i9) (F5 := F5) (F6 := F6) (F7 := F7) (F8 := F8) (F10 := F10) (F11 := F11) (F44 := f11) (F48 := f3) (F50 := f12) (F51 := f13) km10_45_1 km10_45_8 km10_1_2 fm10_5 fm10_6 fm10_7 fm10_8 fm10_10 fm10_11 fm10_44 fm10_48 fm10_50 fm10_51 (by omega) (by assumption) (hv1lp9_14) (by omega)) ?_
            rintro _ m45 ⟨rfl, hIm45, gm45, po0_m45, po1_m45, po2_m45⟩
            have hFm45 : zFr W_47 m0 m45 := hFm10.trans gm45 rfl
            have km45_1_1 : m45 1 1 = g0 := (gm45 1 1 rfl).trans km10_1_1
            have km45_1_2 : m45 1 2 = g1 := (gm45 1 2 rfl).trans km10_1_2
            have km45_45_1 : m45 45 1 = f6 := (gm45 45 1 rfl).trans km10_45_1
            have km45_45_8 : m45 45 8 = f7 := (gm45 45 8 rfl).trans km10_45_8
            have fm45_5 : m45 5 = F5 := (funext fun k => gm45 5 k rfl).trans fm10_5
            have fm45_6 : m45 6 = F6 := (funext fun k => gm45 6 k rfl).trans fm10_6
            have fm45_7 : m45 7 = F7 := (funext fun k => gm45 7 k rfl).trans fm10_7
            have fm45_8 : m45 8 = F8 := (funext fun k => gm45 8 k rfl).trans fm10_8
            have fm45_10 : m45 10 = F10 := (funext fun k => gm45 10 k rfl).trans fm10_10
            have fm45_11 : m45 11 = F11 := (funext fun k => gm45 11 k rfl).trans fm10_11
            obtain ⟨f46, fm45_44⟩ : ∃ f, m45 44 = f := ⟨_, rfl⟩
            try rw [fm45_44] at po0_m45
            try rw [fm45_44] at po1_m45
            have fm45_48 : m45 48 = f3 := (funext fun k => gm45 48 k rfl).trans fm10_48
            obtain ⟨f47, fm45_50⟩ : ∃ f, m45 50 = f := ⟨_, rfl⟩
            try rw [fm45_50] at po0_m45
            try rw [fm45_50] at po1_m45
            obtain ⟨f48, fm45_51⟩ : ∃ f, m45 51 = f := ⟨_, rfl⟩
            try rw [fm45_51] at po0_m45
            try rw [fm45_51] at po1_m45
            have fm45_9 : m45 9 = F9 := (funext fun k => gm45 9 k rfl).trans fm10_9
            obtain ⟨f49, ef49⟩ : ∃ v, m45 43 5 = v := ⟨_, rfl⟩
            have bf49 := hIm45.fi (c := 43) (k := 5) rfl
            rw [ef49] at bf49
            rw [ef49] at po0_m45
            rw [ef49] at po2_m45
            show zW E (d) 47 44 [(2, 43), (0, a0), (0, i8), (0, i9)] [] m45 Q
            refine zw_15 (c := 1) (L' := [(2, 43), (0, a0), (0, i8), (0, (i9 + 1))]) zr_47_44 rfl (by decide) (by omega) rfl ?_
            refine zw_42 zr_47_47 ?_
            exact zw_less (L := [(2, 43), (0, a0), (0, i8), (0, (i9 + 1))]) ⟨Or.inr rfl, Or.inr rfl, Or.inr rfl, Or.inr rfl, trivial⟩ (ihlp9_14 (i8) ((i9 + 1)) (f46) (f47) (f48) m45 hIm45 hFm45  km45_1_1 km45_1_2 km45_45_1 km45_45_8 fm45_5 fm45_6 fm45_7 fm45_8 fm45_10 fm45_11 fm45_44 fm45_48 fm45_50 fm45_51 fm45_9 (by omega) (by omega) (by omega) (by omega) (by first | exact zAn_y hv0lp9_14 zz (by rfl) (cft_e rfl (Or.inl ⟨by omega, po0_m45⟩) (Or.inr ⟨rfl, rfl, rfl⟩)) (by omega) | exact zAn_y (x := 0) hv0lp9_14 po0_m45 (by rfl) (cft_e (a := 0) (b := 0) (e := 0) rfl (Or.inr ⟨by omega, rfl⟩) (Or.inl (by omega))) (by omega)) (by first | exact zz | exact po1_m45) (by omega) (by omega))
          · intro h52; omega
  exact lp9_14 _ (0) (0) (f2) (f4) (f5) m1 hIm1 hFm1  km1_1_1 km1_1_2 ef6 ef7 fm1_5 fm1_6 fm1_7 fm1_8 fm1_10 fm1_11 fm1_44 fm1_48 fm1_50 fm1_51 fm1_9 (by omega) (by omega) (by omega) (by omega) (zAn_0 po1_m1 (by omega)) (zPb_0 po1_m1 (by have z := ib_9 hI0 (k := a0.toNat) (by omega); rw [hG9] at z; omega)) (by omega) (Nat.lt_succ_self _)

abbrev W_113 : List (Nat × Nat) := [(43, 5), (44, 1000), (45, 1), (45, 5), (45, 6), (45, 7), (45, 8), (45, 9), (46, 1000), (47, 1000), (48, 1000), (49, 1000), (50, 1000), (51, 1000)]
set_option maxHeartbeats 8000000 in
theorem th_113 {E : zE} {d : Nat} {m0 : zM} {a0 : Int} {g0 : Int} {g1 : Int} {F5 : Nat → Int} {F6 : Nat → Int} {F7 : Nat → Int} {F8 : Nat → Int} {F10 : Nat → Int} {F11 : Nat → Int} {F44 : Nat → Int} {F48 : Nat → Int} {F50 : Nat → Int} {F51 : Nat → Int} {F9 : Nat → Int} (hd : 96 ≤ d) (hI0 : zInv m0) (hg0 : m0 1 1 = g0) (hg1 : m0 1 2 = g1) (hG5 : m0 5 = F5) (hG6 : m0 6 = F6) (hG7 : m0 7 = F7) (hG8 : m0 8 = F8) (hG10 : m0 10 = F10) (hG11 : m0 11 = F11) (hG44 : m0 44 = F44) (hG48 : m0 48 = F48) (hG50 : m0 50 = F50) (hG51 : m0 51 = F51) (hG9 : m0 9 = F9) (ha0 : (-2147483648) ≤ a0 ∧ a0 ≤ 2147483647) : zC E d 113 [(2, 0), (0, a0)] m0 (fun v m' => ∃ r : Int, v = (0, r) ∧ (-2) ≤ r ∧ r ≤ 200 ∧ zInv m' ∧ zFr W_113 m0 m' ∧ ((r = -2 ∧ (a0 < 0 ∨ 3 < a0)) ∨ ((0 ≤ a0 ∧ a0 ≤ 3) ∧ ∃ S, zAn (pst (chc F11 F10 a0) F6 F7 F8 F5 (zbt g1)) (fun _ => 1) (cft F6 F7 F8 (zbt g1)) (F9 a0.toNat) S r g0))) := by
  have hF0 : zFr W_113 m0 m0 := zFr.rfl
  have bg0 := ib_1_1 hI0
  rw [hg0] at bg0
  have bg1 := ib_1_2 hI0
  rw [hg1] at bg1
  generalize hQ : (fun (v : zV) (m' : zM) => ∃ r : Int, v = (0, r) ∧ (-2) ≤ r ∧ r ≤ 200 ∧ zInv m' ∧ zFr W_113 m0 m' ∧ ((r = -2 ∧ (a0 < 0 ∨ 3 < a0)) ∨ ((0 ≤ a0 ∧ a0 ≤ 3) ∧ ∃ S, zAn (pst (chc F11 F10 a0) F6 F7 F8 F5 (zbt g1)) (fun _ => 1) (cft F6 F7 F8 (zbt g1)) (F9 a0.toNat) S r g0))) = Q
  show zW E d 113 0 [(2, 0), (0, a0)] [] m0 Q
  refine zw_3 zr_113_0 rfl ?_
  refine zw_C zr_113_1 (Or.inr rfl) zm_104 rfl rfl ⟨Nat.le_of_ble_eq_true rfl, Nat.le_of_ble_eq_true rfl, Nat.le_of_ble_eq_true rfl, rfl, by decide⟩ (by omega) (P := (fun v m' => zW E (d) 113 4 [(2, 0), (0, a0)] (if v.1 = 9 then [] else v :: []) m' Q)) ?_ (fun _ _ h => h)
  generalize hQ1 : (fun v m' => zW E (d) 113 4 [(2, 0), (0, a0)] (if v.1 = 9 then [] else v :: []) m' Q) = Q1
  show zW E (d - 1) 104 0 [(0, a0)] [] m0 Q1
  refine zw_3 zr_104_0 rfl ?_
  refine zw_push zr_104_1 ?_
  refine zw_push zr_104_2 ?_
  refine zw_C zr_104_3 (Or.inr rfl) zm_100 rfl rfl ⟨Nat.le_of_ble_eq_true rfl, Nat.le_of_ble_eq_true rfl, Nat.le_of_ble_eq_true rfl, rfl, by decide⟩ (by omega) (P := (fun v m' => zW E (d - 1) 104 6 [(0, a0)] (if v.1 = 9 then [] else v :: []) m' Q1)) ?_ (fun _ _ h => h)
  generalize hQ2 : (fun v m' => zW E (d - 1) 104 6 [(0, a0)] (if v.1 = 9 then [] else v :: []) m' Q1) = Q2
  show zW E (d - 1 - 1) 100 0 [(0, a0), (0, 0), (0, 3)] [] m0 Q2
  refine zw_3 zr_100_0 rfl ?_
  refine zw_3 zr_100_1 rfl ?_
  refine zw_41_0 zr_100_2 ?_ ?_
  · intro h1
    refine zw_push zr_100_14 ?_
    refine zw_R zr_100_15 (by decide) zm_100 (v := (0, 0)) (zRetB (by omega)) ?_
    rw [← hQ2]
    show zW E (d - 1) 104 6 [(0, a0)] [(0, 0)] m0 Q1
    refine zw_R zr_104_6 (by decide) zm_104 (v := (0, 0)) (zRetB (by omega)) ?_
    rw [← hQ1]
    show zW E (d) 113 4 [(2, 0), (0, a0)] [(0, 0)] m0 Q
    refine zw_40_1 zr_113_4 ?_ ?_
    · intro h2
      refine zw_push zr_113_18 ?_
      refine zw_R zr_113_20 (by decide) zm_113 (v := (0, (-2))) rfl ?_
      rw [← hQ]; exact ⟨_, rfl, by omega, by omega, hI0, hF0, by first | exact Or.inr ⟨by omega, zz⟩ | exact Or.inl ⟨rfl, by omega⟩⟩
    · intro h4; omega
  · intro h5
    refine zw_3 zr_100_5 rfl ?_
    refine zw_3 zr_100_6 rfl ?_
    refine zw_41_2 zr_100_7 ?_ ?_
    · intro h6
      refine zw_push zr_100_14 ?_
      refine zw_R zr_100_15 (by decide) zm_100 (v := (0, 0)) (zRetB (by omega)) ?_
      rw [← hQ2]
      show zW E (d - 1) 104 6 [(0, a0)] [(0, 0)] m0 Q1
      refine zw_R zr_104_6 (by decide) zm_104 (v := (0, 0)) (zRetB (by omega)) ?_
      rw [← hQ1]
      show zW E (d) 113 4 [(2, 0), (0, a0)] [(0, 0)] m0 Q
      refine zw_40_1 zr_113_4 ?_ ?_
      · intro h7
        refine zw_push zr_113_18 ?_
        refine zw_R zr_113_20 (by decide) zm_113 (v := (0, (-2))) rfl ?_
        rw [← hQ]; exact ⟨_, rfl, by omega, by omega, hI0, hF0, by first | exact Or.inr ⟨by omega, zz⟩ | exact Or.inl ⟨rfl, by omega⟩⟩
      · intro h9; omega
    · intro h10
      refine zw_push zr_100_10 ?_
      refine zw_42 zr_100_11 ?_
      refine zw_R zr_100_15 (by decide) zm_100 (v := (0, 1)) (zRetB (by omega)) ?_
      rw [← hQ2]
      show zW E (d - 1) 104 6 [(0, a0)] [(0, 1)] m0 Q1
      refine zw_R zr_104_6 (by decide) zm_104 (v := (0, 1)) (zRetB (by omega)) ?_
      rw [← hQ1]
      show zW E (d) 113 4 [(2, 0), (0, a0)] [(0, 1)] m0 Q
      refine zw_40_1 zr_113_4 ?_ ?_
      · intro h11; omega
      · intro h12
        refine zw_7 zr_113_7 rfl ?_
        refine zw_46r (s := 43) zr_113_8 rfl rfl rfl rfl ?_
        refine zw_3 zr_113_11 rfl ?_
        refine zw_C zr_113_12 (Or.inl rfl) zm_47 rfl rfl ⟨Nat.le_of_ble_eq_true rfl, Nat.le_of_ble_eq_true rfl, Nat.le_of_ble_eq_true rfl, rfl, by decide⟩ (by omega) (th_47 (d := d - 1) (by omega) hI0 (a0 := a0) (g0 := g0) (g1 := g1)  (F5 := F5) (F6 := F6) (F7 := F7) (F8 := F8) (F10 := F10) (F11 := F11) (F44 := F44) (F48 := F48) (F50 := F50) (F51 := F51) (F9 := F9) hg0 hg1 hG5 hG6 hG7 hG8 hG10 hG11 hG44 hG48 hG50 hG51 hG9 (by omega) ) ?_
        rintro _ m13 ⟨r14, rfl, hr14a, hr14b, hIm13, gm13, po0_r14, po1_r14⟩
        have hFm13 : zFr W_113 m0 m13 := hF0.trans gm13 rfl
        have km13_1_1 : m13 1 1 = g0 := (gm13 1 1 rfl).trans hg0
        have km13_1_2 : m13 1 2 = g1 := (gm13 1 2 rfl).trans hg1
        have fm13_5 : m13 5 = F5 := (funext fun k => gm13 5 k rfl).trans hG5
        have fm13_6 : m13 6 = F6 := (funext fun k => gm13 6 k rfl).trans hG6
        have fm13_7 : m13 7 = F7 := (funext fun k => gm13 7 k rfl).trans hG7
        have fm13_8 : m13 8 = F8 := (funext fun k => gm13 8 k rfl).trans hG8
        have fm13_10 : m13 10 = F10 := (funext fun k => gm13 10 k rfl).trans hG10
        have fm13_11 : m13 11 = F11 := (funext fun k => gm13 11 k rfl).trans hG11
        obtain ⟨f15, fm13_44⟩ : ∃ f, m13 44 = f := ⟨_, rfl⟩
        obtain ⟨f16, fm13_48⟩ : ∃ f, m13 48 = f := ⟨_, rfl⟩
        obtain ⟨f17, fm13_50⟩ : ∃ f, m13 50 = f := ⟨_, rfl⟩
        obtain ⟨f18, fm13_51⟩ : ∃ f, m13 51 = f := ⟨_, rfl⟩
        have fm13_9 : m13 9 = F9 := (funext fun k => gm13 9 k rfl).trans hG9
        obtain ⟨f19, ef19⟩ : ∃ v, m13 45 1 = v := ⟨_, rfl⟩
        have bf19 := hIm13.fi (c := 45) (k := 1) rfl
        rw [ef19] at bf19
        rw [ef19] at po1_r14
        show zW E (d) 113 15 [(2, 0), (0, a0)] [(0, r14)] m13 Q
        refine zw_42 zr_113_15 ?_
        refine zw_R zr_113_20 (by decide) zm_113 (v := (0, r14)) rfl ?_
        rw [← hQ]; exact ⟨_, rfl, by omega, by omega, hIm13, hFm13, by first | exact Or.inr ⟨by omega, po0_r14⟩ | exact Or.inl ⟨rfl, by omega⟩⟩

abbrev W_176 : List (Nat × Nat) := [(69, 5), (69, 6), (69, 7), (69, 9), (69, 11), (69, 13), (69, 17), (69, 18), (73, 1000), (74, 1000), (75, 1000), (76, 1000), (77, 1000), (78, 1000)]
set_option maxHeartbeats 8000000 in
theorem th_176 {E : zE} {d : Nat} {m0 : zM} {a0 : Int} {g0 : Int} {F70 : Nat → Int} {F76 : Nat → Int} {F77 : Nat → Int} {F78 : Nat → Int} (hd : 6 ≤ d) (hI0 : zInv m0) (hg0 : m0 70 823 = g0) (hG70 : m0 70 = F70) (hG76 : m0 76 = F76) (hG77 : m0 77 = F77) (hG78 : m0 78 = F78) (ha0 : 0 ≤ a0 ∧ a0 ≤ 3) : zC E d 176 [(2, 69), (0, a0)] m0 (fun v m' => ∃ r : Int, v = (0, r) ∧ 0 ≤ r ∧ r ≤ 200 ∧ zInv m' ∧ zFr W_176 m0 m' ∧ (∃ S, zBn (psr (cht F70 a0) (fun i => F70 (91 + 6 * i)) (fun i => F70 (92 + 6 * i)) (fun i => F70 (93 + 6 * i)) (fun i => F70 (90 + 6 * i)) (fun i => F70 (94 + 6 * i))) (fun _ => 1) (cft (fun i => F70 (91 + 6 * i)) (fun i => F70 (92 + 6 * i)) (fun i => F70 (93 + 6 * i)) (fun i => F70 (94 + 6 * i))) (F70 (450 + 52 * a0).toNat) S r g0)) := by
  have hF0 : zFr W_176 m0 m0 := zFr.rfl
  have bg0 : 0 ≤ m0 70 823 ∧ m0 70 823 ≤ 60 := ib_70_meetings hI0 (by omega)
  rw [hg0] at bg0
  generalize hQ : (fun (v : zV) (m' : zM) => ∃ r : Int, v = (0, r) ∧ 0 ≤ r ∧ r ≤ 200 ∧ zInv m' ∧ zFr W_176 m0 m' ∧ (∃ S, zBn (psr (cht F70 a0) (fun i => F70 (91 + 6 * i)) (fun i => F70 (92 + 6 * i)) (fun i => F70 (93 + 6 * i)) (fun i => F70 (90 + 6 * i)) (fun i => F70 (94 + 6 * i))) (fun _ => 1) (cft (fun i => F70 (91 + 6 * i)) (fun i => F70 (92 + 6 * i)) (fun i => F70 (93 + 6 * i)) (fun i => F70 (94 + 6 * i))) (F70 (450 + 52 * a0).toNat) S r g0)) = Q
  show zW E d 176 0 [(2, 69), (0, a0), (9, 0), (9, 0), (9, 0), (9, 0)] [] m0 Q
  refine zw_7 zr_176_0 rfl ?_
  refine zw_3 zr_176_1 rfl ?_
  refine zw_C zr_176_2 (Or.inl rfl) zm_164 rfl rfl ⟨Nat.le_of_ble_eq_true rfl, Nat.le_of_ble_eq_true rfl, Nat.le_of_ble_eq_true rfl, rfl, by decide⟩ (by omega) (th_164 (d := d - 1) (by omega) hI0 (a0 := a0)   (F70 := F70) (F76 := F76) (F77 := F77) (F78 := F78)  hG70 hG76 hG77 hG78 (by omega) ) ?_
  rintro _ m1 ⟨rfl, hIm1, gm1, po0_m1⟩
  have hFm1 : zFr W_176 m0 m1 := hF0.trans gm1 rfl
  have km1_70_823 : m1 70 823 = g0 := (gm1 70 823 rfl).trans hg0
  have fm1_70 : m1 70 = F70 := (funext fun k => gm1 70 k rfl).trans hG70
  obtain ⟨f2, fm1_76⟩ : ∃ f, m1 76 = f := ⟨_, rfl⟩
  try rw [fm1_76] at po0_m1
  obtain ⟨f3, fm1_77⟩ : ∃ f, m1 77 = f := ⟨_, rfl⟩
  try rw [fm1_77] at po0_m1
  obtain ⟨f4, fm1_78⟩ : ∃ f, m1 78 = f := ⟨_, rfl⟩
  try rw [fm1_78] at po0_m1
  show zW E (d) 176 5 [(2, 69), (0, a0), (9, 0), (9, 0), (9, 0), (9, 0)] [] m1 Q
  refine zw_push zr_176_5 ?_
  refine zw_9 (L' := [(2, 69), (0, a0), (0, 0), (9, 0), (9, 0), (9, 0)]) zr_176_6 (Nat.le_of_ble_eq_true rfl) rfl ?_
  have hV : 0 ≤ F70 (450 + 52 * a0).toNat ∧ F70 (450 + 52 * a0).toNat ≤ 9999 ∧ (0 : Int) = 0 := by have z := ib_70_s0 hI0 (k := (450 + 52 * a0).toNat) (by omega); rw [hG70] at z; omega
  refine zw_push zr_176_7 ?_
  refine zw_9 (L' := [(2, 69), (0, a0), (0, 0), (0, 0), (9, 0), (9, 0)]) zr_176_8 (Nat.le_of_ble_eq_true rfl) rfl ?_
  have lp9_12 : ∀ (nlp9_12 : Nat) (i6 i7 : Int) (f9 : Nat → Int) (f10 : Nat → Int) (f11 : Nat → Int) (m8 : zM), zInv m8 → zFr W_176 m0 m8 → m8 70 823 = g0 → m8 70 = F70 → m8 76 = f9 → m8 77 = f10 → m8 78 = f11 → 0 ≤ i6 → i6 ≤ 200 → 0 ≤ i7 → i7 ≤ 60 → (zBn (psr (cht F70 a0) (fun i => F70 (91 + 6 * i)) (fun i => F70 (92 + 6 * i)) (fun i => F70 (93 + 6 * i)) (fun i => F70 (90 + 6 * i)) (fun i => F70 (94 + 6 * i))) (fun _ => 1) (cft (fun i => F70 (91 + 6 * i)) (fun i => F70 (92 + 6 * i)) (fun i => F70 (93 + 6 * i)) (fun i => F70 (94 + 6 * i))) (F70 (450 + 52 * a0).toNat) (f9, f10, f11) i6 i7) → (zPb (f9, f10, f11) i7) → (0 ≤ i6 ∧ i6 ≤ 2 * i7 ∧ i7 ≤ g0) → (60 - i7).toNat < nlp9_12 → zW E (d) 176 9 [(2, 69), (0, a0), (0, i6), (0, i7), (9, 0), (9, 0)] [] m8 Q := by
    intro nlp9_12
    induction nlp9_12 with
    | zero =>
      intros
      exact absurd (by assumption : _ < 0) (Nat.not_lt_zero _)
    | succ nlp9_12 ihlp9_12 =>
      intro i6 i7 f9 f10 f11 m8 hIm8 hFm8 km8_70_823 fm8_70 fm8_76 fm8_77 fm8_78 li6 ui6 li7 ui7 hv0lp9_12 hv1lp9_12 hv2lp9_12 hmlp9_12
      refine zw_3 zr_176_9 rfl ?_
      refine zw_7 zr_176_10 rfl ?_
      refine zw_C zr_176_11 (Or.inl rfl) zm_142 rfl rfl ⟨Nat.le_of_ble_eq_true rfl, Nat.le_of_ble_eq_true rfl, Nat.le_of_ble_eq_true rfl, rfl, by decide⟩ (by omega) (P := (fun v m' => zW E (d) 176 14 [(2, 69), (0, a0), (0, i6), (0, i7), (9, 0), (9, 0)] (if v.1 = 9 then [(0, i7)] else v :: [(0, i7)]) m' Q)) ?_ (fun _ _ h => h)
      generalize hQ1 : (fun v m' => zW E (d) 176 14 [(2, 69), (0, a0), (0, i6), (0, i7), (9, 0), (9, 0)] (if v.1 = 9 then [(0, i7)] else v :: [(0, i7)]) m' Q) = Q1
      show zW E (d - 1) 142 0 [(2, 69)] [] m8 Q1
      refine zw_7 zr_142_0 rfl ?_
      refine zw_46r (s := 70) zr_142_1 rfl rfl rfl rfl ?_
      refine zw_push zr_142_4 ?_
      refine zw_48k (c := 70) (len := 826) zr_142_7 rfl rfl (by omega) (by omega) (show (823 : Int).toNat = 823 by omega) km8_70_823 ?_
      refine zw_R zr_142_8 (by decide) zm_142 (v := (0, g0)) rfl ?_
      rw [← hQ1]
      show zW E (d) 176 14 [(2, 69), (0, a0), (0, i6), (0, i7), (9, 0), (9, 0)] [(0, g0), (0, i7)] m8 Q
      refine zw_41_3 zr_176_14 ?_ ?_
      · intro h14
        refine zw_3 zr_176_129 rfl ?_
        refine zw_R zr_176_130 (by decide) zm_176 (v := (0, i6)) rfl ?_
        rw [← hQ]; exact ⟨_, rfl, by omega, by omega, hIm8, hFm8, ⟨(f9, f10, f11), by have z := hv0lp9_12; rw [show i7 = g0 by omega] at z; exact z⟩⟩
      · intro h16
        refine zw_7 zr_176_17 rfl ?_
        refine zw_46r (s := 76) zr_176_18 rfl rfl rfl rfl ?_
        refine zw_7 zr_176_21 rfl ?_
        refine zw_3 zr_176_22 rfl ?_
        refine zw_push zr_176_23 ?_
        refine zw_C zr_176_24 (Or.inl rfl) zm_144 rfl rfl ⟨Nat.le_of_ble_eq_true rfl, Nat.le_of_ble_eq_true rfl, Nat.le_of_ble_eq_true rfl, rfl, by decide⟩ (by omega) (P := (fun v m' => zW E (d) 176 27 [(2, 69), (0, a0), (0, i6), (0, i7), (9, 0), (9, 0)] (if v.1 = 9 then [(2, 76)] else v :: [(2, 76)]) m' Q)) ?_ (fun _ _ h => h)
        generalize hQ1 : (fun v m' => zW E (d) 176 27 [(2, 69), (0, a0), (0, i6), (0, i7), (9, 0), (9, 0)] (if v.1 = 9 then [(2, 76)] else v :: [(2, 76)]) m' Q) = Q1
        show zW E (d - 1) 144 0 [(2, 69), (0, i7), (0, 1)] [] m8 Q1
        refine zw_7 zr_144_0 rfl ?_
        refine zw_46r (s := 70) zr_144_1 rfl rfl rfl rfl ?_
        refine zw_push zr_144_4 ?_
        refine zw_push zr_144_6 ?_
        refine zw_3 zr_144_8 rfl ?_
        refine zw_18 zr_144_9 (by omega) ?_
        refine zw_16 zr_144_10 (by omega) ?_
        refine zw_3 zr_144_11 rfl ?_
        refine zw_16 zr_144_12 (by omega) ?_
        refine zw_48 (c := 70) (len := 826) zr_144_13 rfl rfl (by omega) (by omega) ?_
        intro x17 ex17
        have bx17 := ib_70_m1 hIm8 (k := (((90 + (6 * i7)) + 1)).toNat) (by omega)
        rw [← ex17] at bx17
        have qx17 : x17 = F70 (((90 + (6 * i7)) + 1)).toNat := by rw [← fm8_70]; exact ex17
        clear ex17
        refine zw_R zr_144_14 (by decide) zm_144 (v := (0, x17)) rfl ?_
        rw [← hQ1]
        show zW E (d) 176 27 [(2, 69), (0, a0), (0, i6), (0, i7), (9, 0), (9, 0)] [(0, x17), (2, 76)] m8 Q
        have hA : x17 = F70 (91 + 6 * (i7).toNat) := qx17.trans (congrArg F70 (by omega))
        refine zw_48 (c := 76) (len := 10) zr_176_27 rfl rfl (by omega) (by omega) ?_
        intro x19 ex19
        have bx19 := hIm8.ra (c := 76) (len := 10) (k := (x17).toNat) rfl (by omega)
        rw [← ex19] at bx19
        have qx19 : x19 = f9 (x17).toNat := by rw [← fm8_76]; exact ex19
        clear ex19
        have hNa := qx19
        have hb1 := (zPb_at hv1lp9_12 (p := x17) (by omega)).1
        rw [← hNa] at hb1
        rw [hA] at hNa
        refine zw_7 zr_176_28 rfl ?_
        refine zw_46r (s := 76) zr_176_29 rfl rfl rfl rfl ?_
        refine zw_7 zr_176_32 rfl ?_
        refine zw_3 zr_176_33 rfl ?_
        refine zw_push zr_176_34 ?_
        refine zw_C zr_176_35 (Or.inl rfl) zm_144 rfl rfl ⟨Nat.le_of_ble_eq_true rfl, Nat.le_of_ble_eq_true rfl, Nat.le_of_ble_eq_true rfl, rfl, by decide⟩ (by omega) (P := (fun v m' => zW E (d) 176 38 [(2, 69), (0, a0), (0, i6), (0, i7), (9, 0), (9, 0)] (if v.1 = 9 then [(2, 76), (0, x19)] else v :: [(2, 76), (0, x19)]) m' Q)) ?_ (fun _ _ h => h)
        generalize hQ1 : (fun v m' => zW E (d) 176 38 [(2, 69), (0, a0), (0, i6), (0, i7), (9, 0), (9, 0)] (if v.1 = 9 then [(2, 76), (0, x19)] else v :: [(2, 76), (0, x19)]) m' Q) = Q1
        show zW E (d - 1) 144 0 [(2, 69), (0, i7), (0, 2)] [] m8 Q1
        refine zw_7 zr_144_0 rfl ?_
        refine zw_46r (s := 70) zr_144_1 rfl rfl rfl rfl ?_
        refine zw_push zr_144_4 ?_
        refine zw_push zr_144_6 ?_
        refine zw_3 zr_144_8 rfl ?_
        refine zw_18 zr_144_9 (by omega) ?_
        refine zw_16 zr_144_10 (by omega) ?_
        refine zw_3 zr_144_11 rfl ?_
        refine zw_16 zr_144_12 (by omega) ?_
        refine zw_48 (c := 70) (len := 826) zr_144_13 rfl rfl (by omega) (by omega) ?_
        intro x24 ex24
        have bx24 := ib_70_m2 hIm8 (k := (((90 + (6 * i7)) + 2)).toNat) (by omega)
        rw [← ex24] at bx24
        have qx24 : x24 = F70 (((90 + (6 * i7)) + 2)).toNat := by rw [← fm8_70]; exact ex24
        clear ex24
        refine zw_R zr_144_14 (by decide) zm_144 (v := (0, x24)) rfl ?_
        rw [← hQ1]
        show zW E (d) 176 38 [(2, 69), (0, a0), (0, i6), (0, i7), (9, 0), (9, 0)] [(0, x24), (2, 76), (0, x19)] m8 Q
        have hB : x24 = F70 (92 + 6 * (i7).toNat) := qx24.trans (congrArg F70 (by omega))
        refine zw_48 (c := 76) (len := 10) zr_176_38 rfl rfl (by omega) (by omega) ?_
        intro x26 ex26
        have bx26 := hIm8.ra (c := 76) (len := 10) (k := (x24).toNat) rfl (by omega)
        rw [← ex26] at bx26
        have qx26 : x26 = f9 (x24).toNat := by rw [← fm8_76]; exact ex26
        clear ex26
        have hNb := qx26
        have hb2 := (zPb_at hv1lp9_12 (p := x24) (by omega)).1
        rw [← hNb] at hb2
        rw [hB] at hNb
        refine zw_17 zr_176_39 (by omega) ?_
        refine zw_10 (L' := [(2, 69), (0, a0), (0, i6), (0, i7), (0, (x19 - x26)), (9, 0)]) zr_176_40 (Nat.le_of_ble_eq_true rfl) rfl ?_
        refine zw_7 zr_176_42 rfl ?_
        refine zw_3 zr_176_43 rfl ?_
        refine zw_push zr_176_44 ?_
        refine zw_C zr_176_45 (Or.inl rfl) zm_144 rfl rfl ⟨Nat.le_of_ble_eq_true rfl, Nat.le_of_ble_eq_true rfl, Nat.le_of_ble_eq_true rfl, rfl, by decide⟩ (by omega) (P := (fun v m' => zW E (d) 176 48 [(2, 69), (0, a0), (0, i6), (0, i7), (0, (x19 - x26)), (9, 0)] (if v.1 = 9 then [] else v :: []) m' Q)) ?_ (fun _ _ h => h)
        generalize hQ1 : (fun v m' => zW E (d) 176 48 [(2, 69), (0, a0), (0, i6), (0, i7), (0, (x19 - x26)), (9, 0)] (if v.1 = 9 then [] else v :: []) m' Q) = Q1
        show zW E (d - 1) 144 0 [(2, 69), (0, i7), (0, 3)] [] m8 Q1
        refine zw_7 zr_144_0 rfl ?_
        refine zw_46r (s := 70) zr_144_1 rfl rfl rfl rfl ?_
        refine zw_push zr_144_4 ?_
        refine zw_push zr_144_6 ?_
        refine zw_3 zr_144_8 rfl ?_
        refine zw_18 zr_144_9 (by omega) ?_
        refine zw_16 zr_144_10 (by omega) ?_
        refine zw_3 zr_144_11 rfl ?_
        refine zw_16 zr_144_12 (by omega) ?_
        refine zw_48 (c := 70) (len := 826) zr_144_13 rfl rfl (by omega) (by omega) ?_
        intro x31 ex31
        have bx31 := ib_70_m3 hIm8 (k := (((90 + (6 * i7)) + 3)).toNat) (by omega)
        rw [← ex31] at bx31
        have qx31 : x31 = F70 (((90 + (6 * i7)) + 3)).toNat := by rw [← fm8_70]; exact ex31
        clear ex31
        refine zw_R zr_144_14 (by decide) zm_144 (v := (0, x31)) rfl ?_
        rw [← hQ1]
        show zW E (d) 176 48 [(2, 69), (0, a0), (0, i6), (0, i7), (0, (x19 - x26)), (9, 0)] [(0, x31)] m8 Q
        have hE : x31 = F70 (93 + 6 * (i7).toNat) := qx31.trans (congrArg F70 (by omega))
        refine zw_10 (L' := [(2, 69), (0, a0), (0, i6), (0, i7), (0, (x19 - x26)), (0, x31)]) zr_176_48 (Nat.le_of_ble_eq_true rfl) rfl ?_
        refine zw_7 zr_176_50 rfl ?_
        refine zw_3 zr_176_51 rfl ?_
        refine zw_push zr_176_52 ?_
        refine zw_C zr_176_53 (Or.inl rfl) zm_144 rfl rfl ⟨Nat.le_of_ble_eq_true rfl, Nat.le_of_ble_eq_true rfl, Nat.le_of_ble_eq_true rfl, rfl, by decide⟩ (by omega) (P := (fun v m' => zW E (d) 176 56 [(2, 69), (0, a0), (0, i6), (0, i7), (0, (x19 - x26)), (0, x31)] (if v.1 = 9 then [] else v :: []) m' Q)) ?_ (fun _ _ h => h)
        generalize hQ1 : (fun v m' => zW E (d) 176 56 [(2, 69), (0, a0), (0, i6), (0, i7), (0, (x19 - x26)), (0, x31)] (if v.1 = 9 then [] else v :: []) m' Q) = Q1
        show zW E (d - 1) 144 0 [(2, 69), (0, i7), (0, 4)] [] m8 Q1
        refine zw_7 zr_144_0 rfl ?_
        refine zw_46r (s := 70) zr_144_1 rfl rfl rfl rfl ?_
        refine zw_push zr_144_4 ?_
        refine zw_push zr_144_6 ?_
        refine zw_3 zr_144_8 rfl ?_
        refine zw_18 zr_144_9 (by omega) ?_
        refine zw_16 zr_144_10 (by omega) ?_
        refine zw_3 zr_144_11 rfl ?_
        refine zw_16 zr_144_12 (by omega) ?_
        refine zw_48 (c := 70) (len := 826) zr_144_13 rfl rfl (by omega) (by omega) ?_
        intro x33 ex33
        have bx33 := ib_70_m4 hIm8 (k := (((90 + (6 * i7)) + 4)).toNat) (by omega)
        rw [← ex33] at bx33
        have qx33 : x33 = F70 (((90 + (6 * i7)) + 4)).toNat := by rw [← fm8_70]; exact ex33
        clear ex33
        refine zw_R zr_144_14 (by decide) zm_144 (v := (0, x33)) rfl ?_
        rw [← hQ1]
        show zW E (d) 176 56 [(2, 69), (0, a0), (0, i6), (0, i7), (0, (x19 - x26)), (0, x31)] [(0, x33)] m8 Q
        have hG : x33 = F70 (94 + 6 * (i7).toNat) := qx33.trans (congrArg F70 (by omega))
        refine zw_40_4 zr_176_56 ?_ ?_
        · intro h35
          refine zw_7 zr_176_117 rfl ?_
          refine zw_3 zr_176_118 rfl ?_
          refine zw_3 zr_176_119 rfl ?_
          refine zw_C zr_176_120 (Or.inl rfl) zm_166 rfl rfl ⟨Nat.le_of_ble_eq_true rfl, Nat.le_of_ble_eq_true rfl, Nat.le_of_ble_eq_true rfl, rfl, by decide⟩ (by omega) (th_166 (d := d - 1) (by omega) hIm8 (a0 := a0) (a1 := i7)  (gN := i7) (F70 := F70) (F76 := f9) (F77 := f10) (F78 := f11)  fm8_70 fm8_76 fm8_77 fm8_78 (by omega) (by omega) (hv1lp9_12) (by omega)) ?_
          rintro _ m38 ⟨rfl, hIm38, gm38, po0_m38, po1_m38, po2_m38⟩
          have hFm38 : zFr W_176 m0 m38 := hFm8.trans gm38 rfl
          have km38_70_823 : m38 70 823 = g0 := (gm38 70 823 rfl).trans km8_70_823
          have fm38_70 : m38 70 = F70 := (funext fun k => gm38 70 k rfl).trans fm8_70
          obtain ⟨f39, fm38_76⟩ : ∃ f, m38 76 = f := ⟨_, rfl⟩
          try rw [fm38_76] at po0_m38
          try rw [fm38_76] at po1_m38
          obtain ⟨f40, fm38_77⟩ : ∃ f, m38 77 = f := ⟨_, rfl⟩
          try rw [fm38_77] at po0_m38
          try rw [fm38_77] at po1_m38
          obtain ⟨f41, fm38_78⟩ : ∃ f, m38 78 = f := ⟨_, rfl⟩
          try rw [fm38_78] at po0_m38
          try rw [fm38_78] at po1_m38
          obtain ⟨f42, ef42⟩ : ∃ v, m38 69 17 = v := ⟨_, rfl⟩
          have bf42 := hIm38.fi (c := 69) (k := 17) rfl
          rw [ef42] at bf42
          rw [ef42] at po0_m38
          rw [ef42] at po2_m38
          obtain ⟨f43, ef43⟩ : ∃ v, m38 69 18 = v := ⟨_, rfl⟩
          have bf43 := hIm38.fi (c := 69) (k := 18) rfl
          rw [ef43] at bf43
          rw [ef43] at po0_m38
          rw [ef43] at po2_m38
          show zW E (d) 176 123 [(2, 69), (0, a0), (0, i6), (0, i7), (0, (x19 - x26)), (0, x31)] [] m38 Q
          refine zw_15 (c := 1) (L' := [(2, 69), (0, a0), (0, i6), (0, (i7 + 1)), (0, (x19 - x26)), (0, x31)]) zr_176_123 rfl (by decide) (by omega) rfl ?_
          refine zw_42 zr_176_126 ?_
          exact zw_less (L := [(2, 69), (0, a0), (0, i6), (0, (i7 + 1)), (9, 0), (9, 0)]) ⟨Or.inr rfl, Or.inr rfl, Or.inr rfl, Or.inr rfl, Or.inl rfl, Or.inl rfl, trivial⟩ (ihlp9_12 (i6) ((i7 + 1)) (f39) (f40) (f41) m38 hIm38 hFm38  km38_70_823 fm38_70 fm38_76 fm38_77 fm38_78 (by omega) (by omega) (by omega) (by omega) (by first | exact zBn_y (x := 0) hv0lp9_12 po0_m38 (by rfl) (cft_e hG (Or.inl ⟨by omega, pts_e (by omega)⟩) (Or.inr ⟨hNa, hNb, hE⟩)) (by omega) | exact zBn_y (x := 0) hv0lp9_12 po0_m38 (by rfl) (cft_e (a := 0) (b := 0) (e := 0) hG (Or.inr ⟨by omega, rfl⟩) (Or.inl (by omega))) (by omega)) (po1_m38) (by omega) (by omega))
        · intro h46
          refine zw_3 zr_176_59 rfl ?_
          refine zw_4 zr_176_60 rfl ?_
          refine zw_push zr_176_62 ?_
          refine zw_41_4 zr_176_63 ?_ ?_
          · intro h47
            refine zw_4 zr_176_89 rfl ?_
            refine zw_push zr_176_91 ?_
            refine zw_41_4 zr_176_92 ?_ ?_
            · intro h48
              refine zw_4 zr_176_100 rfl ?_
              refine zw_40_4 zr_176_102 ?_ ?_
              · intro h49
                refine zw_push zr_176_114 ?_
                skip
                refine zw_16 zr_176_115 (by omega) ?_
                refine zw_9 (L' := [(2, 69), (0, a0), (0, (i6 + 0)), (0, i7), (0, (x19 - x26)), (0, x31)]) zr_176_116 (Nat.le_of_ble_eq_true rfl) rfl ?_
                refine zw_7 zr_176_117 rfl ?_
                refine zw_3 zr_176_118 rfl ?_
                refine zw_3 zr_176_119 rfl ?_
                refine zw_C zr_176_120 (Or.inl rfl) zm_166 rfl rfl ⟨Nat.le_of_ble_eq_true rfl, Nat.le_of_ble_eq_true rfl, Nat.le_of_ble_eq_true rfl, rfl, by decide⟩ (by omega) (th_166 (d := d - 1) (by omega) hIm8 (a0 := a0) (a1 := i7)  (gN := i7) (F70 := F70) (F76 := f9) (F77 := f10) (F78 := f11)  fm8_70 fm8_76 fm8_77 fm8_78 (by omega) (by omega) (hv1lp9_12) (by omega)) ?_
                rintro _ m52 ⟨rfl, hIm52, gm52, po0_m52, po1_m52, po2_m52⟩
                have hFm52 : zFr W_176 m0 m52 := hFm8.trans gm52 rfl
                have km52_70_823 : m52 70 823 = g0 := (gm52 70 823 rfl).trans km8_70_823
                have fm52_70 : m52 70 = F70 := (funext fun k => gm52 70 k rfl).trans fm8_70
                obtain ⟨f53, fm52_76⟩ : ∃ f, m52 76 = f := ⟨_, rfl⟩
                try rw [fm52_76] at po0_m52
                try rw [fm52_76] at po1_m52
                obtain ⟨f54, fm52_77⟩ : ∃ f, m52 77 = f := ⟨_, rfl⟩
                try rw [fm52_77] at po0_m52
                try rw [fm52_77] at po1_m52
                obtain ⟨f55, fm52_78⟩ : ∃ f, m52 78 = f := ⟨_, rfl⟩
                try rw [fm52_78] at po0_m52
                try rw [fm52_78] at po1_m52
                obtain ⟨f56, ef56⟩ : ∃ v, m52 69 17 = v := ⟨_, rfl⟩
                have bf56 := hIm52.fi (c := 69) (k := 17) rfl
                rw [ef56] at bf56
                rw [ef56] at po0_m52
                rw [ef56] at po2_m52
                obtain ⟨f57, ef57⟩ : ∃ v, m52 69 18 = v := ⟨_, rfl⟩
                have bf57 := hIm52.fi (c := 69) (k := 18) rfl
                rw [ef57] at bf57
                rw [ef57] at po0_m52
                rw [ef57] at po2_m52
                show zW E (d) 176 123 [(2, 69), (0, a0), (0, (i6 + 0)), (0, i7), (0, (x19 - x26)), (0, x31)] [] m52 Q
                refine zw_15 (c := 1) (L' := [(2, 69), (0, a0), (0, (i6 + 0)), (0, (i7 + 1)), (0, (x19 - x26)), (0, x31)]) zr_176_123 rfl (by decide) (by omega) rfl ?_
                refine zw_42 zr_176_126 ?_
                exact zw_less (L := [(2, 69), (0, a0), (0, (i6 + 0)), (0, (i7 + 1)), (9, 0), (9, 0)]) ⟨Or.inr rfl, Or.inr rfl, Or.inr rfl, Or.inr rfl, Or.inl rfl, Or.inl rfl, trivial⟩ (ihlp9_12 ((i6 + 0)) ((i7 + 1)) (f53) (f54) (f55) m52 hIm52 hFm52  km52_70_823 fm52_70 fm52_76 fm52_77 fm52_78 (by omega) (by omega) (by omega) (by omega) (by first | exact zBn_y (x := 0) hv0lp9_12 po0_m52 (by rfl) (cft_e hG (Or.inl ⟨by omega, pts_e (by omega)⟩) (Or.inr ⟨hNa, hNb, hE⟩)) (by omega) | exact zBn_y (x := 0) hv0lp9_12 po0_m52 (by rfl) (cft_e (a := 0) (b := 0) (e := 0) hG (Or.inr ⟨by omega, rfl⟩) (Or.inl (by omega))) (by omega)) (po1_m52) (by omega) (by omega))
              · intro h60
                refine zw_4 zr_176_105 rfl ?_
                refine zw_40_3 zr_176_107 ?_ ?_
                · intro h61
                  refine zw_push zr_176_114 ?_
                  skip
                  refine zw_16 zr_176_115 (by omega) ?_
                  refine zw_9 (L' := [(2, 69), (0, a0), (0, (i6 + 0)), (0, i7), (0, (x19 - x26)), (0, x31)]) zr_176_116 (Nat.le_of_ble_eq_true rfl) rfl ?_
                  refine zw_7 zr_176_117 rfl ?_
                  refine zw_3 zr_176_118 rfl ?_
                  refine zw_3 zr_176_119 rfl ?_
                  refine zw_C zr_176_120 (Or.inl rfl) zm_166 rfl rfl ⟨Nat.le_of_ble_eq_true rfl, Nat.le_of_ble_eq_true rfl, Nat.le_of_ble_eq_true rfl, rfl, by decide⟩ (by omega) (th_166 (d := d - 1) (by omega) hIm8 (a0 := a0) (a1 := i7)  (gN := i7) (F70 := F70) (F76 := f9) (F77 := f10) (F78 := f11)  fm8_70 fm8_76 fm8_77 fm8_78 (by omega) (by omega) (hv1lp9_12) (by omega)) ?_
                  rintro _ m64 ⟨rfl, hIm64, gm64, po0_m64, po1_m64, po2_m64⟩
                  have hFm64 : zFr W_176 m0 m64 := hFm8.trans gm64 rfl
                  have km64_70_823 : m64 70 823 = g0 := (gm64 70 823 rfl).trans km8_70_823
                  have fm64_70 : m64 70 = F70 := (funext fun k => gm64 70 k rfl).trans fm8_70
                  obtain ⟨f65, fm64_76⟩ : ∃ f, m64 76 = f := ⟨_, rfl⟩
                  try rw [fm64_76] at po0_m64
                  try rw [fm64_76] at po1_m64
                  obtain ⟨f66, fm64_77⟩ : ∃ f, m64 77 = f := ⟨_, rfl⟩
                  try rw [fm64_77] at po0_m64
                  try rw [fm64_77] at po1_m64
                  obtain ⟨f67, fm64_78⟩ : ∃ f, m64 78 = f := ⟨_, rfl⟩
                  try rw [fm64_78] at po0_m64
                  try rw [fm64_78] at po1_m64
                  obtain ⟨f68, ef68⟩ : ∃ v, m64 69 17 = v := ⟨_, rfl⟩
                  have bf68 := hIm64.fi (c := 69) (k := 17) rfl
                  rw [ef68] at bf68
                  rw [ef68] at po0_m64
                  rw [ef68] at po2_m64
                  obtain ⟨f69, ef69⟩ : ∃ v, m64 69 18 = v := ⟨_, rfl⟩
                  have bf69 := hIm64.fi (c := 69) (k := 18) rfl
                  rw [ef69] at bf69
                  rw [ef69] at po0_m64
                  rw [ef69] at po2_m64
                  show zW E (d) 176 123 [(2, 69), (0, a0), (0, (i6 + 0)), (0, i7), (0, (x19 - x26)), (0, x31)] [] m64 Q
                  refine zw_15 (c := 1) (L' := [(2, 69), (0, a0), (0, (i6 + 0)), (0, (i7 + 1)), (0, (x19 - x26)), (0, x31)]) zr_176_123 rfl (by decide) (by omega) rfl ?_
                  refine zw_42 zr_176_126 ?_
                  exact zw_less (L := [(2, 69), (0, a0), (0, (i6 + 0)), (0, (i7 + 1)), (9, 0), (9, 0)]) ⟨Or.inr rfl, Or.inr rfl, Or.inr rfl, Or.inr rfl, Or.inl rfl, Or.inl rfl, trivial⟩ (ihlp9_12 ((i6 + 0)) ((i7 + 1)) (f65) (f66) (f67) m64 hIm64 hFm64  km64_70_823 fm64_70 fm64_76 fm64_77 fm64_78 (by omega) (by omega) (by omega) (by omega) (by first | exact zBn_y (x := 0) hv0lp9_12 po0_m64 (by rfl) (cft_e hG (Or.inl ⟨by omega, pts_e (by omega)⟩) (Or.inr ⟨hNa, hNb, hE⟩)) (by omega) | exact zBn_y (x := 0) hv0lp9_12 po0_m64 (by rfl) (cft_e (a := 0) (b := 0) (e := 0) hG (Or.inr ⟨by omega, rfl⟩) (Or.inl (by omega))) (by omega)) (po1_m64) (by omega) (by omega))
                · intro h72
                  refine zw_push zr_176_110 ?_
                  refine zw_42 zr_176_111 ?_
                  skip
                  refine zw_16 zr_176_115 (by omega) ?_
                  refine zw_9 (L' := [(2, 69), (0, a0), (0, (i6 + 2)), (0, i7), (0, (x19 - x26)), (0, x31)]) zr_176_116 (Nat.le_of_ble_eq_true rfl) rfl ?_
                  refine zw_7 zr_176_117 rfl ?_
                  refine zw_3 zr_176_118 rfl ?_
                  refine zw_3 zr_176_119 rfl ?_
                  refine zw_C zr_176_120 (Or.inl rfl) zm_166 rfl rfl ⟨Nat.le_of_ble_eq_true rfl, Nat.le_of_ble_eq_true rfl, Nat.le_of_ble_eq_true rfl, rfl, by decide⟩ (by omega) (th_166 (d := d - 1) (by omega) hIm8 (a0 := a0) (a1 := i7)  (gN := i7) (F70 := F70) (F76 := f9) (F77 := f10) (F78 := f11)  fm8_70 fm8_76 fm8_77 fm8_78 (by omega) (by omega) (hv1lp9_12) (by omega)) ?_
                  rintro _ m75 ⟨rfl, hIm75, gm75, po0_m75, po1_m75, po2_m75⟩
                  have hFm75 : zFr W_176 m0 m75 := hFm8.trans gm75 rfl
                  have km75_70_823 : m75 70 823 = g0 := (gm75 70 823 rfl).trans km8_70_823
                  have fm75_70 : m75 70 = F70 := (funext fun k => gm75 70 k rfl).trans fm8_70
                  obtain ⟨f76, fm75_76⟩ : ∃ f, m75 76 = f := ⟨_, rfl⟩
                  try rw [fm75_76] at po0_m75
                  try rw [fm75_76] at po1_m75
                  obtain ⟨f77, fm75_77⟩ : ∃ f, m75 77 = f := ⟨_, rfl⟩
                  try rw [fm75_77] at po0_m75
                  try rw [fm75_77] at po1_m75
                  obtain ⟨f78, fm75_78⟩ : ∃ f, m75 78 = f := ⟨_, rfl⟩
                  try rw [fm75_78] at po0_m75
                  try rw [fm75_78] at po1_m75
                  obtain ⟨f79, ef79⟩ : ∃ v, m75 69 17 = v := ⟨_, rfl⟩
                  have bf79 := hIm75.fi (c := 69) (k := 17) rfl
                  rw [ef79] at bf79
                  rw [ef79] at po0_m75
                  rw [ef79] at po2_m75
                  obtain ⟨f80, ef80⟩ : ∃ v, m75 69 18 = v := ⟨_, rfl⟩
                  have bf80 := hIm75.fi (c := 69) (k := 18) rfl
                  rw [ef80] at bf80
                  rw [ef80] at po0_m75
                  rw [ef80] at po2_m75
                  show zW E (d) 176 123 [(2, 69), (0, a0), (0, (i6 + 2)), (0, i7), (0, (x19 - x26)), (0, x31)] [] m75 Q
                  refine zw_15 (c := 1) (L' := [(2, 69), (0, a0), (0, (i6 + 2)), (0, (i7 + 1)), (0, (x19 - x26)), (0, x31)]) zr_176_123 rfl (by decide) (by omega) rfl ?_
                  refine zw_42 zr_176_126 ?_
                  exact zw_less (L := [(2, 69), (0, a0), (0, (i6 + 2)), (0, (i7 + 1)), (9, 0), (9, 0)]) ⟨Or.inr rfl, Or.inr rfl, Or.inr rfl, Or.inr rfl, Or.inl rfl, Or.inl rfl, trivial⟩ (ihlp9_12 ((i6 + 2)) ((i7 + 1)) (f76) (f77) (f78) m75 hIm75 hFm75  km75_70_823 fm75_70 fm75_76 fm75_77 fm75_78 (by omega) (by omega) (by omega) (by omega) (by first | exact zBn_y (x := 2) hv0lp9_12 po0_m75 (by rfl) (cft_e hG (Or.inl ⟨by omega, pts_e (by omega)⟩) (Or.inr ⟨hNa, hNb, hE⟩)) (by omega) | exact zBn_y (x := 0) hv0lp9_12 po0_m75 (by rfl) (cft_e (a := 0) (b := 0) (e := 0) hG (Or.inr ⟨by omega, rfl⟩) (Or.inl (by omega))) (by omega)) (po1_m75) (by omega) (by omega))
            · intro h83
              refine zw_4 zr_176_95 rfl ?_
              refine zw_40_2 zr_176_97 ?_ ?_
              · intro h84
                refine zw_push zr_176_110 ?_
                refine zw_42 zr_176_111 ?_
                skip
                refine zw_16 zr_176_115 (by omega) ?_
                refine zw_9 (L' := [(2, 69), (0, a0), (0, (i6 + 2)), (0, i7), (0, (x19 - x26)), (0, x31)]) zr_176_116 (Nat.le_of_ble_eq_true rfl) rfl ?_
                refine zw_7 zr_176_117 rfl ?_
                refine zw_3 zr_176_118 rfl ?_
                refine zw_3 zr_176_119 rfl ?_
                refine zw_C zr_176_120 (Or.inl rfl) zm_166 rfl rfl ⟨Nat.le_of_ble_eq_true rfl, Nat.le_of_ble_eq_true rfl, Nat.le_of_ble_eq_true rfl, rfl, by decide⟩ (by omega) (th_166 (d := d - 1) (by omega) hIm8 (a0 := a0) (a1 := i7)  (gN := i7) (F70 := F70) (F76 := f9) (F77 := f10) (F78 := f11)  fm8_70 fm8_76 fm8_77 fm8_78 (by omega) (by omega) (hv1lp9_12) (by omega)) ?_
                rintro _ m87 ⟨rfl, hIm87, gm87, po0_m87, po1_m87, po2_m87⟩
                have hFm87 : zFr W_176 m0 m87 := hFm8.trans gm87 rfl
                have km87_70_823 : m87 70 823 = g0 := (gm87 70 823 rfl).trans km8_70_823
                have fm87_70 : m87 70 = F70 := (funext fun k => gm87 70 k rfl).trans fm8_70
                obtain ⟨f88, fm87_76⟩ : ∃ f, m87 76 = f := ⟨_, rfl⟩
                try rw [fm87_76] at po0_m87
                try rw [fm87_76] at po1_m87
                obtain ⟨f89, fm87_77⟩ : ∃ f, m87 77 = f := ⟨_, rfl⟩
                try rw [fm87_77] at po0_m87
                try rw [fm87_77] at po1_m87
                obtain ⟨f90, fm87_78⟩ : ∃ f, m87 78 = f := ⟨_, rfl⟩
                try rw [fm87_78] at po0_m87
                try rw [fm87_78] at po1_m87
                obtain ⟨f91, ef91⟩ : ∃ v, m87 69 17 = v := ⟨_, rfl⟩
                have bf91 := hIm87.fi (c := 69) (k := 17) rfl
                rw [ef91] at bf91
                rw [ef91] at po0_m87
                rw [ef91] at po2_m87
                obtain ⟨f92, ef92⟩ : ∃ v, m87 69 18 = v := ⟨_, rfl⟩
                have bf92 := hIm87.fi (c := 69) (k := 18) rfl
                rw [ef92] at bf92
                rw [ef92] at po0_m87
                rw [ef92] at po2_m87
                show zW E (d) 176 123 [(2, 69), (0, a0), (0, (i6 + 2)), (0, i7), (0, (x19 - x26)), (0, x31)] [] m87 Q
                refine zw_15 (c := 1) (L' := [(2, 69), (0, a0), (0, (i6 + 2)), (0, (i7 + 1)), (0, (x19 - x26)), (0, x31)]) zr_176_123 rfl (by decide) (by omega) rfl ?_
                refine zw_42 zr_176_126 ?_
                exact zw_less (L := [(2, 69), (0, a0), (0, (i6 + 2)), (0, (i7 + 1)), (9, 0), (9, 0)]) ⟨Or.inr rfl, Or.inr rfl, Or.inr rfl, Or.inr rfl, Or.inl rfl, Or.inl rfl, trivial⟩ (ihlp9_12 ((i6 + 2)) ((i7 + 1)) (f88) (f89) (f90) m87 hIm87 hFm87  km87_70_823 fm87_70 fm87_76 fm87_77 fm87_78 (by omega) (by omega) (by omega) (by omega) (by first | exact zBn_y (x := 2) hv0lp9_12 po0_m87 (by rfl) (cft_e hG (Or.inl ⟨by omega, pts_e (by omega)⟩) (Or.inr ⟨hNa, hNb, hE⟩)) (by omega) | exact zBn_y (x := 0) hv0lp9_12 po0_m87 (by rfl) (cft_e (a := 0) (b := 0) (e := 0) hG (Or.inr ⟨by omega, rfl⟩) (Or.inl (by omega))) (by omega)) (po1_m87) (by omega) (by omega))
              · intro h95
                refine zw_4 zr_176_100 rfl ?_
                refine zw_40_4 zr_176_102 ?_ ?_
                · intro h96
                  refine zw_push zr_176_114 ?_
                  skip
                  refine zw_16 zr_176_115 (by omega) ?_
                  refine zw_9 (L' := [(2, 69), (0, a0), (0, (i6 + 0)), (0, i7), (0, (x19 - x26)), (0, x31)]) zr_176_116 (Nat.le_of_ble_eq_true rfl) rfl ?_
                  refine zw_7 zr_176_117 rfl ?_
                  refine zw_3 zr_176_118 rfl ?_
                  refine zw_3 zr_176_119 rfl ?_
                  refine zw_C zr_176_120 (Or.inl rfl) zm_166 rfl rfl ⟨Nat.le_of_ble_eq_true rfl, Nat.le_of_ble_eq_true rfl, Nat.le_of_ble_eq_true rfl, rfl, by decide⟩ (by omega) (th_166 (d := d - 1) (by omega) hIm8 (a0 := a0) (a1 := i7)  (gN := i7) (F70 := F70) (F76 := f9) (F77 := f10) (F78 := f11)  fm8_70 fm8_76 fm8_77 fm8_78 (by omega) (by omega) (hv1lp9_12) (by omega)) ?_
                  rintro _ m99 ⟨rfl, hIm99, gm99, po0_m99, po1_m99, po2_m99⟩
                  have hFm99 : zFr W_176 m0 m99 := hFm8.trans gm99 rfl
                  have km99_70_823 : m99 70 823 = g0 := (gm99 70 823 rfl).trans km8_70_823
                  have fm99_70 : m99 70 = F70 := (funext fun k => gm99 70 k rfl).trans fm8_70
                  obtain ⟨f100, fm99_76⟩ : ∃ f, m99 76 = f := ⟨_, rfl⟩
                  try rw [fm99_76] at po0_m99
                  try rw [fm99_76] at po1_m99
                  obtain ⟨f101, fm99_77⟩ : ∃ f, m99 77 = f := ⟨_, rfl⟩
                  try rw [fm99_77] at po0_m99
                  try rw [fm99_77] at po1_m99
                  obtain ⟨f102, fm99_78⟩ : ∃ f, m99 78 = f := ⟨_, rfl⟩
                  try rw [fm99_78] at po0_m99
                  try rw [fm99_78] at po1_m99
                  obtain ⟨f103, ef103⟩ : ∃ v, m99 69 17 = v := ⟨_, rfl⟩
                  have bf103 := hIm99.fi (c := 69) (k := 17) rfl
                  rw [ef103] at bf103
                  rw [ef103] at po0_m99
                  rw [ef103] at po2_m99
                  obtain ⟨f104, ef104⟩ : ∃ v, m99 69 18 = v := ⟨_, rfl⟩
                  have bf104 := hIm99.fi (c := 69) (k := 18) rfl
                  rw [ef104] at bf104
                  rw [ef104] at po0_m99
                  rw [ef104] at po2_m99
                  show zW E (d) 176 123 [(2, 69), (0, a0), (0, (i6 + 0)), (0, i7), (0, (x19 - x26)), (0, x31)] [] m99 Q
                  refine zw_15 (c := 1) (L' := [(2, 69), (0, a0), (0, (i6 + 0)), (0, (i7 + 1)), (0, (x19 - x26)), (0, x31)]) zr_176_123 rfl (by decide) (by omega) rfl ?_
                  refine zw_42 zr_176_126 ?_
                  exact zw_less (L := [(2, 69), (0, a0), (0, (i6 + 0)), (0, (i7 + 1)), (9, 0), (9, 0)]) ⟨Or.inr rfl, Or.inr rfl, Or.inr rfl, Or.inr rfl, Or.inl rfl, Or.inl rfl, trivial⟩ (ihlp9_12 ((i6 + 0)) ((i7 + 1)) (f100) (f101) (f102) m99 hIm99 hFm99  km99_70_823 fm99_70 fm99_76 fm99_77 fm99_78 (by omega) (by omega) (by omega) (by omega) (by first | exact zBn_y (x := 0) hv0lp9_12 po0_m99 (by rfl) (cft_e hG (Or.inl ⟨by omega, pts_e (by omega)⟩) (Or.inr ⟨hNa, hNb, hE⟩)) (by omega) | exact zBn_y (x := 0) hv0lp9_12 po0_m99 (by rfl) (cft_e (a := 0) (b := 0) (e := 0) hG (Or.inr ⟨by omega, rfl⟩) (Or.inl (by omega))) (by omega)) (po1_m99) (by omega) (by omega))
                · intro h107; omega
          · intro h108
            refine zw_4 zr_176_66 rfl ?_
            refine zw_36 zr_176_68 ?_
            refine zw_push zr_176_69 ?_
            refine zw_push zr_176_72 ?_
            refine zw_C zr_176_75 (Or.inr rfl) zm_140 rfl rfl ⟨Nat.le_of_ble_eq_true rfl, Nat.le_of_ble_eq_true rfl, Nat.le_of_ble_eq_true rfl, rfl, by decide⟩ (by omega) (P := (fun v m' => zW E (d) 176 78 [(2, 69), (0, a0), (0, i6), (0, i7), (0, (x19 - x26)), (0, x31)] (if v.1 = 9 then [(0, i6)] else v :: [(0, i6)]) m' Q)) ?_ (fun _ _ h => h)
            generalize hQ1 : (fun v m' => zW E (d) 176 78 [(2, 69), (0, a0), (0, i6), (0, i7), (0, (x19 - x26)), (0, x31)] (if v.1 = 9 then [(0, i6)] else v :: [(0, i6)]) m' Q) = Q1
            show zW E (d - 1) 140 0 [(1, (x19 - x26)), (9, 0), (1, (-50)), (9, 0), (1, 50), (9, 0)] [] m8 Q1
            refine zw_5 zr_140_0 rfl ?_
            refine zw_5 zr_140_1 rfl ?_
            refine zw_39_0 zr_140_2 zr_140_3 ?_ ?_
            · intro h109
              refine zw_push zr_140_17 ?_
              refine zw_R zr_140_18 (by decide) zm_140 (v := (0, 0)) (zRetB (by omega)) ?_
              rw [← hQ1]
              show zW E (d) 176 78 [(2, 69), (0, a0), (0, i6), (0, i7), (0, (x19 - x26)), (0, x31)] [(0, 0), (0, i6)] m8 Q
              refine zw_40_1 zr_176_78 ?_ ?_
              · intro h110
                refine zw_push zr_176_85 ?_
                refine zw_42 zr_176_86 ?_
                skip
                refine zw_16 zr_176_115 (by omega) ?_
                refine zw_9 (L' := [(2, 69), (0, a0), (0, (i6 + 0)), (0, i7), (0, (x19 - x26)), (0, x31)]) zr_176_116 (Nat.le_of_ble_eq_true rfl) rfl ?_
                refine zw_7 zr_176_117 rfl ?_
                refine zw_3 zr_176_118 rfl ?_
                refine zw_3 zr_176_119 rfl ?_
                refine zw_C zr_176_120 (Or.inl rfl) zm_166 rfl rfl ⟨Nat.le_of_ble_eq_true rfl, Nat.le_of_ble_eq_true rfl, Nat.le_of_ble_eq_true rfl, rfl, by decide⟩ (by omega) (th_166 (d := d - 1) (by omega) hIm8 (a0 := a0) (a1 := i7)  (gN := i7) (F70 := F70) (F76 := f9) (F77 := f10) (F78 := f11)  fm8_70 fm8_76 fm8_77 fm8_78 (by omega) (by omega) (hv1lp9_12) (by omega)) ?_
                rintro _ m113 ⟨rfl, hIm113, gm113, po0_m113, po1_m113, po2_m113⟩
                have hFm113 : zFr W_176 m0 m113 := hFm8.trans gm113 rfl
                have km113_70_823 : m113 70 823 = g0 := (gm113 70 823 rfl).trans km8_70_823
                have fm113_70 : m113 70 = F70 := (funext fun k => gm113 70 k rfl).trans fm8_70
                obtain ⟨f114, fm113_76⟩ : ∃ f, m113 76 = f := ⟨_, rfl⟩
                try rw [fm113_76] at po0_m113
                try rw [fm113_76] at po1_m113
                obtain ⟨f115, fm113_77⟩ : ∃ f, m113 77 = f := ⟨_, rfl⟩
                try rw [fm113_77] at po0_m113
                try rw [fm113_77] at po1_m113
                obtain ⟨f116, fm113_78⟩ : ∃ f, m113 78 = f := ⟨_, rfl⟩
                try rw [fm113_78] at po0_m113
                try rw [fm113_78] at po1_m113
                obtain ⟨f117, ef117⟩ : ∃ v, m113 69 17 = v := ⟨_, rfl⟩
                have bf117 := hIm113.fi (c := 69) (k := 17) rfl
                rw [ef117] at bf117
                rw [ef117] at po0_m113
                rw [ef117] at po2_m113
                obtain ⟨f118, ef118⟩ : ∃ v, m113 69 18 = v := ⟨_, rfl⟩
                have bf118 := hIm113.fi (c := 69) (k := 18) rfl
                rw [ef118] at bf118
                rw [ef118] at po0_m113
                rw [ef118] at po2_m113
                show zW E (d) 176 123 [(2, 69), (0, a0), (0, (i6 + 0)), (0, i7), (0, (x19 - x26)), (0, x31)] [] m113 Q
                refine zw_15 (c := 1) (L' := [(2, 69), (0, a0), (0, (i6 + 0)), (0, (i7 + 1)), (0, (x19 - x26)), (0, x31)]) zr_176_123 rfl (by decide) (by omega) rfl ?_
                refine zw_42 zr_176_126 ?_
                exact zw_less (L := [(2, 69), (0, a0), (0, (i6 + 0)), (0, (i7 + 1)), (9, 0), (9, 0)]) ⟨Or.inr rfl, Or.inr rfl, Or.inr rfl, Or.inr rfl, Or.inl rfl, Or.inl rfl, trivial⟩ (ihlp9_12 ((i6 + 0)) ((i7 + 1)) (f114) (f115) (f116) m113 hIm113 hFm113  km113_70_823 fm113_70 fm113_76 fm113_77 fm113_78 (by omega) (by omega) (by omega) (by omega) (by first | exact zBn_y (x := 0) hv0lp9_12 po0_m113 (by rfl) (cft_e hG (Or.inl ⟨by omega, pts_e (by omega)⟩) (Or.inr ⟨hNa, hNb, hE⟩)) (by omega) | exact zBn_y (x := 0) hv0lp9_12 po0_m113 (by rfl) (cft_e (a := 0) (b := 0) (e := 0) hG (Or.inr ⟨by omega, rfl⟩) (Or.inl (by omega))) (by omega)) (po1_m113) (by omega) (by omega))
              · intro h121; omega
            · intro h122
              refine zw_5 zr_140_6 rfl ?_
              refine zw_6 zr_140_7 rfl ?_
              refine zw_39_2 zr_140_9 zr_140_10 ?_ ?_
              · intro h123
                refine zw_push zr_140_17 ?_
                refine zw_R zr_140_18 (by decide) zm_140 (v := (0, 0)) (zRetB (by omega)) ?_
                rw [← hQ1]
                show zW E (d) 176 78 [(2, 69), (0, a0), (0, i6), (0, i7), (0, (x19 - x26)), (0, x31)] [(0, 0), (0, i6)] m8 Q
                refine zw_40_1 zr_176_78 ?_ ?_
                · intro h124
                  refine zw_push zr_176_85 ?_
                  refine zw_42 zr_176_86 ?_
                  skip
                  refine zw_16 zr_176_115 (by omega) ?_
                  refine zw_9 (L' := [(2, 69), (0, a0), (0, (i6 + 0)), (0, i7), (0, (x19 - x26)), (0, x31)]) zr_176_116 (Nat.le_of_ble_eq_true rfl) rfl ?_
                  refine zw_7 zr_176_117 rfl ?_
                  refine zw_3 zr_176_118 rfl ?_
                  refine zw_3 zr_176_119 rfl ?_
                  refine zw_C zr_176_120 (Or.inl rfl) zm_166 rfl rfl ⟨Nat.le_of_ble_eq_true rfl, Nat.le_of_ble_eq_true rfl, Nat.le_of_ble_eq_true rfl, rfl, by decide⟩ (by omega) (th_166 (d := d - 1) (by omega) hIm8 (a0 := a0) (a1 := i7)  (gN := i7) (F70 := F70) (F76 := f9) (F77 := f10) (F78 := f11)  fm8_70 fm8_76 fm8_77 fm8_78 (by omega) (by omega) (hv1lp9_12) (by omega)) ?_
                  rintro _ m127 ⟨rfl, hIm127, gm127, po0_m127, po1_m127, po2_m127⟩
                  have hFm127 : zFr W_176 m0 m127 := hFm8.trans gm127 rfl
                  have km127_70_823 : m127 70 823 = g0 := (gm127 70 823 rfl).trans km8_70_823
                  have fm127_70 : m127 70 = F70 := (funext fun k => gm127 70 k rfl).trans fm8_70
                  obtain ⟨f128, fm127_76⟩ : ∃ f, m127 76 = f := ⟨_, rfl⟩
                  try rw [fm127_76] at po0_m127
                  try rw [fm127_76] at po1_m127
                  obtain ⟨f129, fm127_77⟩ : ∃ f, m127 77 = f := ⟨_, rfl⟩
                  try rw [fm127_77] at po0_m127
                  try rw [fm127_77] at po1_m127
                  obtain ⟨f130, fm127_78⟩ : ∃ f, m127 78 = f := ⟨_, rfl⟩
                  try rw [fm127_78] at po0_m127
                  try rw [fm127_78] at po1_m127
                  obtain ⟨f131, ef131⟩ : ∃ v, m127 69 17 = v := ⟨_, rfl⟩
                  have bf131 := hIm127.fi (c := 69) (k := 17) rfl
                  rw [ef131] at bf131
                  rw [ef131] at po0_m127
                  rw [ef131] at po2_m127
                  obtain ⟨f132, ef132⟩ : ∃ v, m127 69 18 = v := ⟨_, rfl⟩
                  have bf132 := hIm127.fi (c := 69) (k := 18) rfl
                  rw [ef132] at bf132
                  rw [ef132] at po0_m127
                  rw [ef132] at po2_m127
                  show zW E (d) 176 123 [(2, 69), (0, a0), (0, (i6 + 0)), (0, i7), (0, (x19 - x26)), (0, x31)] [] m127 Q
                  refine zw_15 (c := 1) (L' := [(2, 69), (0, a0), (0, (i6 + 0)), (0, (i7 + 1)), (0, (x19 - x26)), (0, x31)]) zr_176_123 rfl (by decide) (by omega) rfl ?_
                  refine zw_42 zr_176_126 ?_
                  exact zw_less (L := [(2, 69), (0, a0), (0, (i6 + 0)), (0, (i7 + 1)), (9, 0), (9, 0)]) ⟨Or.inr rfl, Or.inr rfl, Or.inr rfl, Or.inr rfl, Or.inl rfl, Or.inl rfl, trivial⟩ (ihlp9_12 ((i6 + 0)) ((i7 + 1)) (f128) (f129) (f130) m127 hIm127 hFm127  km127_70_823 fm127_70 fm127_76 fm127_77 fm127_78 (by omega) (by omega) (by omega) (by omega) (by first | exact zBn_y (x := 0) hv0lp9_12 po0_m127 (by rfl) (cft_e hG (Or.inl ⟨by omega, pts_e (by omega)⟩) (Or.inr ⟨hNa, hNb, hE⟩)) (by omega) | exact zBn_y (x := 0) hv0lp9_12 po0_m127 (by rfl) (cft_e (a := 0) (b := 0) (e := 0) hG (Or.inr ⟨by omega, rfl⟩) (Or.inl (by omega))) (by omega)) (po1_m127) (by omega) (by omega))
                · intro h135; omega
              · intro h136
                refine zw_push zr_140_13 ?_
                refine zw_42 zr_140_14 ?_
                refine zw_R zr_140_18 (by decide) zm_140 (v := (0, 1)) (zRetB (by omega)) ?_
                rw [← hQ1]
                show zW E (d) 176 78 [(2, 69), (0, a0), (0, i6), (0, i7), (0, (x19 - x26)), (0, x31)] [(0, 1), (0, i6)] m8 Q
                refine zw_40_1 zr_176_78 ?_ ?_
                · intro h137; omega
                · intro h138
                  refine zw_push zr_176_81 ?_
                  refine zw_42 zr_176_82 ?_
                  skip
                  refine zw_16 zr_176_115 (by omega) ?_
                  refine zw_9 (L' := [(2, 69), (0, a0), (0, (i6 + 1)), (0, i7), (0, (x19 - x26)), (0, x31)]) zr_176_116 (Nat.le_of_ble_eq_true rfl) rfl ?_
                  refine zw_7 zr_176_117 rfl ?_
                  refine zw_3 zr_176_118 rfl ?_
                  refine zw_3 zr_176_119 rfl ?_
                  refine zw_C zr_176_120 (Or.inl rfl) zm_166 rfl rfl ⟨Nat.le_of_ble_eq_true rfl, Nat.le_of_ble_eq_true rfl, Nat.le_of_ble_eq_true rfl, rfl, by decide⟩ (by omega) (th_166 (d := d - 1) (by omega) hIm8 (a0 := a0) (a1 := i7)  (gN := i7) (F70 := F70) (F76 := f9) (F77 := f10) (F78 := f11)  fm8_70 fm8_76 fm8_77 fm8_78 (by omega) (by omega) (hv1lp9_12) (by omega)) ?_
                  rintro _ m141 ⟨rfl, hIm141, gm141, po0_m141, po1_m141, po2_m141⟩
                  have hFm141 : zFr W_176 m0 m141 := hFm8.trans gm141 rfl
                  have km141_70_823 : m141 70 823 = g0 := (gm141 70 823 rfl).trans km8_70_823
                  have fm141_70 : m141 70 = F70 := (funext fun k => gm141 70 k rfl).trans fm8_70
                  obtain ⟨f142, fm141_76⟩ : ∃ f, m141 76 = f := ⟨_, rfl⟩
                  try rw [fm141_76] at po0_m141
                  try rw [fm141_76] at po1_m141
                  obtain ⟨f143, fm141_77⟩ : ∃ f, m141 77 = f := ⟨_, rfl⟩
                  try rw [fm141_77] at po0_m141
                  try rw [fm141_77] at po1_m141
                  obtain ⟨f144, fm141_78⟩ : ∃ f, m141 78 = f := ⟨_, rfl⟩
                  try rw [fm141_78] at po0_m141
                  try rw [fm141_78] at po1_m141
                  obtain ⟨f145, ef145⟩ : ∃ v, m141 69 17 = v := ⟨_, rfl⟩
                  have bf145 := hIm141.fi (c := 69) (k := 17) rfl
                  rw [ef145] at bf145
                  rw [ef145] at po0_m141
                  rw [ef145] at po2_m141
                  obtain ⟨f146, ef146⟩ : ∃ v, m141 69 18 = v := ⟨_, rfl⟩
                  have bf146 := hIm141.fi (c := 69) (k := 18) rfl
                  rw [ef146] at bf146
                  rw [ef146] at po0_m141
                  rw [ef146] at po2_m141
                  show zW E (d) 176 123 [(2, 69), (0, a0), (0, (i6 + 1)), (0, i7), (0, (x19 - x26)), (0, x31)] [] m141 Q
                  refine zw_15 (c := 1) (L' := [(2, 69), (0, a0), (0, (i6 + 1)), (0, (i7 + 1)), (0, (x19 - x26)), (0, x31)]) zr_176_123 rfl (by decide) (by omega) rfl ?_
                  refine zw_42 zr_176_126 ?_
                  exact zw_less (L := [(2, 69), (0, a0), (0, (i6 + 1)), (0, (i7 + 1)), (9, 0), (9, 0)]) ⟨Or.inr rfl, Or.inr rfl, Or.inr rfl, Or.inr rfl, Or.inl rfl, Or.inl rfl, trivial⟩ (ihlp9_12 ((i6 + 1)) ((i7 + 1)) (f142) (f143) (f144) m141 hIm141 hFm141  km141_70_823 fm141_70 fm141_76 fm141_77 fm141_78 (by omega) (by omega) (by omega) (by omega) (by first | exact zBn_y (x := 1) hv0lp9_12 po0_m141 (by rfl) (cft_e hG (Or.inl ⟨by omega, pts_e (by omega)⟩) (Or.inr ⟨hNa, hNb, hE⟩)) (by omega) | exact zBn_y (x := 0) hv0lp9_12 po0_m141 (by rfl) (cft_e (a := 0) (b := 0) (e := 0) hG (Or.inr ⟨by omega, rfl⟩) (Or.inl (by omega))) (by omega)) (po1_m141) (by omega) (by omega))
  exact lp9_12 _ (0) (0) (f2) (f3) (f4) m1 hIm1 hFm1  km1_70_823 fm1_70 fm1_76 fm1_77 fm1_78 (by omega) (by omega) (by omega) (by omega) (zBn_0 po0_m1 (by omega)) (zPb_r0 po0_m1 hV) (by omega) (Nat.lt_succ_self _)

abbrev W_177 : List (Nat × Nat) := [(69, 5), (69, 6), (69, 7), (69, 9), (69, 11), (69, 13), (69, 17), (69, 18), (73, 1000), (74, 1000), (75, 1000), (76, 1000), (77, 1000), (78, 1000)]
set_option maxHeartbeats 8000000 in
theorem th_177 {E : zE} {d : Nat} {m0 : zM} {a0 : Int} {g0 : Int} {F70 : Nat → Int} (hd : 7 ≤ d) (hI0 : zInv m0) (hg0 : m0 70 823 = g0) (hG70 : m0 70 = F70) (ha0 : (-2147483648) ≤ a0 ∧ a0 ≤ 2147483647) : zC E d 177 [(2, 69), (0, a0)] m0 (fun v m' => ∃ r : Int, v = (0, r) ∧ (-2) ≤ r ∧ r ≤ 200 ∧ zInv m' ∧ zFr W_177 m0 m' ∧ ((r = -2 ∧ (a0 < 0 ∨ 3 < a0)) ∨ ((0 ≤ a0 ∧ a0 ≤ 3) ∧ ∃ S, zBn (psr (cht F70 a0) (fun i => F70 (91 + 6 * i)) (fun i => F70 (92 + 6 * i)) (fun i => F70 (93 + 6 * i)) (fun i => F70 (90 + 6 * i)) (fun i => F70 (94 + 6 * i))) (fun _ => 1) (cft (fun i => F70 (91 + 6 * i)) (fun i => F70 (92 + 6 * i)) (fun i => F70 (93 + 6 * i)) (fun i => F70 (94 + 6 * i))) (F70 (450 + 52 * a0).toNat) S r g0))) := by
  have hF0 : zFr W_177 m0 m0 := zFr.rfl
  have bg0 : 0 ≤ m0 70 823 ∧ m0 70 823 ≤ 60 := ib_70_meetings hI0 (by omega)
  rw [hg0] at bg0
  generalize hQ : (fun (v : zV) (m' : zM) => ∃ r : Int, v = (0, r) ∧ (-2) ≤ r ∧ r ≤ 200 ∧ zInv m' ∧ zFr W_177 m0 m' ∧ ((r = -2 ∧ (a0 < 0 ∨ 3 < a0)) ∨ ((0 ≤ a0 ∧ a0 ≤ 3) ∧ ∃ S, zBn (psr (cht F70 a0) (fun i => F70 (91 + 6 * i)) (fun i => F70 (92 + 6 * i)) (fun i => F70 (93 + 6 * i)) (fun i => F70 (90 + 6 * i)) (fun i => F70 (94 + 6 * i))) (fun _ => 1) (cft (fun i => F70 (91 + 6 * i)) (fun i => F70 (92 + 6 * i)) (fun i => F70 (93 + 6 * i)) (fun i => F70 (94 + 6 * i))) (F70 (450 + 52 * a0).toNat) S r g0))) = Q
  show zW E d 177 0 [(2, 69), (0, a0)] [] m0 Q
  refine zw_3 zr_177_0 rfl ?_
  refine zw_C zr_177_1 (Or.inr rfl) zm_148 rfl rfl ⟨Nat.le_of_ble_eq_true rfl, Nat.le_of_ble_eq_true rfl, Nat.le_of_ble_eq_true rfl, rfl, by decide⟩ (by omega) (P := (fun v m' => zW E (d) 177 4 [(2, 69), (0, a0)] (if v.1 = 9 then [] else v :: []) m' Q)) ?_ (fun _ _ h => h)
  generalize hQ1 : (fun v m' => zW E (d) 177 4 [(2, 69), (0, a0)] (if v.1 = 9 then [] else v :: []) m' Q) = Q1
  show zW E (d - 1) 148 0 [(0, a0)] [] m0 Q1
  refine zw_3 zr_148_0 rfl ?_
  refine zw_36 zr_148_1 ?_
  refine zw_push zr_148_2 ?_
  refine zw_push zr_148_3 ?_
  refine zw_C zr_148_6 (Or.inr rfl) zm_140 rfl rfl ⟨Nat.le_of_ble_eq_true rfl, Nat.le_of_ble_eq_true rfl, Nat.le_of_ble_eq_true rfl, rfl, by decide⟩ (by omega) (P := (fun v m' => zW E (d - 1) 148 9 [(0, a0)] (if v.1 = 9 then [] else v :: []) m' Q1)) ?_ (fun _ _ h => h)
  generalize hQ2 : (fun v m' => zW E (d - 1) 148 9 [(0, a0)] (if v.1 = 9 then [] else v :: []) m' Q1) = Q2
  show zW E (d - 1 - 1) 140 0 [(1, a0), (9, 0), (1, 0), (9, 0), (1, 3), (9, 0)] [] m0 Q2
  refine zw_5 zr_140_0 rfl ?_
  refine zw_5 zr_140_1 rfl ?_
  refine zw_39_0 zr_140_2 zr_140_3 ?_ ?_
  · intro h1
    refine zw_push zr_140_17 ?_
    refine zw_R zr_140_18 (by decide) zm_140 (v := (0, 0)) (zRetB (by omega)) ?_
    rw [← hQ2]
    show zW E (d - 1) 148 9 [(0, a0)] [(0, 0)] m0 Q1
    refine zw_R zr_148_9 (by decide) zm_148 (v := (0, 0)) (zRetB (by omega)) ?_
    rw [← hQ1]
    show zW E (d) 177 4 [(2, 69), (0, a0)] [(0, 0)] m0 Q
    refine zw_40_1 zr_177_4 ?_ ?_
    · intro h2
      refine zw_push zr_177_15 ?_
      refine zw_R zr_177_17 (by decide) zm_177 (v := (0, (-2))) rfl ?_
      rw [← hQ]; exact ⟨_, rfl, by omega, by omega, hI0, hF0, by first | exact Or.inr ⟨by omega, zz⟩ | exact Or.inl ⟨rfl, by omega⟩⟩
    · intro h4; omega
  · intro h5
    refine zw_5 zr_140_6 rfl ?_
    refine zw_6 zr_140_7 rfl ?_
    refine zw_39_2 zr_140_9 zr_140_10 ?_ ?_
    · intro h6
      refine zw_push zr_140_17 ?_
      refine zw_R zr_140_18 (by decide) zm_140 (v := (0, 0)) (zRetB (by omega)) ?_
      rw [← hQ2]
      show zW E (d - 1) 148 9 [(0, a0)] [(0, 0)] m0 Q1
      refine zw_R zr_148_9 (by decide) zm_148 (v := (0, 0)) (zRetB (by omega)) ?_
      rw [← hQ1]
      show zW E (d) 177 4 [(2, 69), (0, a0)] [(0, 0)] m0 Q
      refine zw_40_1 zr_177_4 ?_ ?_
      · intro h7
        refine zw_push zr_177_15 ?_
        refine zw_R zr_177_17 (by decide) zm_177 (v := (0, (-2))) rfl ?_
        rw [← hQ]; exact ⟨_, rfl, by omega, by omega, hI0, hF0, by first | exact Or.inr ⟨by omega, zz⟩ | exact Or.inl ⟨rfl, by omega⟩⟩
      · intro h9; omega
    · intro h10
      refine zw_push zr_140_13 ?_
      refine zw_42 zr_140_14 ?_
      refine zw_R zr_140_18 (by decide) zm_140 (v := (0, 1)) (zRetB (by omega)) ?_
      rw [← hQ2]
      show zW E (d - 1) 148 9 [(0, a0)] [(0, 1)] m0 Q1
      refine zw_R zr_148_9 (by decide) zm_148 (v := (0, 1)) (zRetB (by omega)) ?_
      rw [← hQ1]
      show zW E (d) 177 4 [(2, 69), (0, a0)] [(0, 1)] m0 Q
      refine zw_40_1 zr_177_4 ?_ ?_
      · intro h11; omega
      · intro h12
        refine zw_7 zr_177_7 rfl ?_
        refine zw_3 zr_177_8 rfl ?_
        refine zw_C zr_177_9 (Or.inl rfl) zm_176 rfl rfl ⟨Nat.le_of_ble_eq_true rfl, Nat.le_of_ble_eq_true rfl, Nat.le_of_ble_eq_true rfl, rfl, by decide⟩ (by omega) (th_176 (d := d - 1) (by omega) hI0 (a0 := a0) (g0 := g0)  (F70 := F70) (F76 := m0 76) (F77 := m0 77) (F78 := m0 78) hg0 hG70 rfl rfl rfl (by omega) ) ?_
        rintro _ m13 ⟨r14, rfl, hr14a, hr14b, hIm13, gm13, po0_r14⟩
        have hFm13 : zFr W_177 m0 m13 := hF0.trans gm13 rfl
        have km13_70_823 : m13 70 823 = g0 := (gm13 70 823 rfl).trans hg0
        have fm13_70 : m13 70 = F70 := (funext fun k => gm13 70 k rfl).trans hG70
        show zW E (d) 177 12 [(2, 69), (0, a0)] [(0, r14)] m13 Q
        refine zw_42 zr_177_12 ?_
        refine zw_R zr_177_17 (by decide) zm_177 (v := (0, r14)) rfl ?_
        rw [← hQ]; exact ⟨_, rfl, by omega, by omega, hIm13, hFm13, by first | exact Or.inr ⟨by omega, po0_r14⟩ | exact Or.inl ⟨rfl, by omega⟩⟩

abbrev W_114 : List (Nat × Nat) := [(43, 5), (44, 1000), (45, 1), (45, 5), (45, 6), (45, 7), (45, 8), (45, 9), (46, 1000), (47, 1000), (48, 1000), (49, 1000), (50, 1000), (51, 1000)]
set_option maxHeartbeats 8000000 in
theorem th_114 {E : zE} {d : Nat} {m0 : zM} {g0 : Int} {g1 : Int} {F5 : Nat → Int} {F6 : Nat → Int} {F7 : Nat → Int} {F8 : Nat → Int} {F10 : Nat → Int} {F11 : Nat → Int} {F44 : Nat → Int} {F48 : Nat → Int} {F50 : Nat → Int} {F51 : Nat → Int} {F9 : Nat → Int} (hd : 96 ≤ d) (hI0 : zInv m0) (hg0 : m0 1 1 = g0) (hg1 : m0 1 2 = g1) (hG5 : m0 5 = F5) (hG6 : m0 6 = F6) (hG7 : m0 7 = F7) (hG8 : m0 8 = F8) (hG10 : m0 10 = F10) (hG11 : m0 11 = F11) (hG44 : m0 44 = F44) (hG48 : m0 48 = F48) (hG50 : m0 50 = F50) (hG51 : m0 51 = F51) (hG9 : m0 9 = F9) : zC E d 114 [(2, 0)] m0 (fun v m' => ∃ r : Int, v = (0, r) ∧ (-1) ≤ r ∧ r ≤ 3 ∧ zInv m' ∧ zFr W_114 m0 m' ∧ (∃ bm, zBc (fun s => zKcs (chc F11 F10 s) (pst (chc F11 F10 s) F6 F7 F8 F5 (zbt g1)) (cft F6 F7 F8 (zbt g1)) (F9 s) g0) 4 r bm)) := by
  have hF0 : zFr W_114 m0 m0 := zFr.rfl
  have bg0 := ib_1_1 hI0
  rw [hg0] at bg0
  have bg1 := ib_1_2 hI0
  rw [hg1] at bg1
  generalize hQ : (fun (v : zV) (m' : zM) => ∃ r : Int, v = (0, r) ∧ (-1) ≤ r ∧ r ≤ 3 ∧ zInv m' ∧ zFr W_114 m0 m' ∧ (∃ bm, zBc (fun s => zKcs (chc F11 F10 s) (pst (chc F11 F10 s) F6 F7 F8 F5 (zbt g1)) (cft F6 F7 F8 (zbt g1)) (F9 s) g0) 4 r bm)) = Q
  show zW E d 114 0 [(2, 0), (9, 0), (9, 0), (9, 0), (9, 0)] [] m0 Q
  refine zw_push zr_114_0 ?_
  refine zw_9 (L' := [(2, 0), (0, (-1)), (9, 0), (9, 0), (9, 0)]) zr_114_1 (Nat.le_of_ble_eq_true rfl) rfl ?_
  refine zw_push zr_114_2 ?_
  refine zw_9 (L' := [(2, 0), (0, (-1)), (0, (-1)), (9, 0), (9, 0)]) zr_114_3 (Nat.le_of_ble_eq_true rfl) rfl ?_
  refine zw_push zr_114_4 ?_
  refine zw_9 (L' := [(2, 0), (0, (-1)), (0, (-1)), (0, 0), (9, 0)]) zr_114_5 (Nat.le_of_ble_eq_true rfl) rfl ?_
  have lp6_9 : ∀ (nlp6_9 : Nat) (i1 i2 i3 : Int) (f5 : Nat → Int) (f6 : Nat → Int) (f7 : Nat → Int) (f8 : Nat → Int) (m4 : zM), zInv m4 → zFr W_114 m0 m4 → m4 1 1 = g0 → m4 1 2 = g1 → m4 5 = F5 → m4 6 = F6 → m4 7 = F7 → m4 8 = F8 → m4 10 = F10 → m4 11 = F11 → m4 44 = f5 → m4 48 = f6 → m4 50 = f7 → m4 51 = f8 → m4 9 = F9 → (-1) ≤ i1 → i1 ≤ 3 → (-1) ≤ i2 → i2 ≤ 200 → 0 ≤ i3 → i3 ≤ 4 → (zBc (fun s => zKcs (chc F11 F10 s) (pst (chc F11 F10 s) F6 F7 F8 F5 (zbt g1)) (cft F6 F7 F8 (zbt g1)) (F9 s) g0) i3 i1 i2) → (-1 ≤ i2) → (4 - i3).toNat < nlp6_9 → zW E (d) 114 6 [(2, 0), (0, i1), (0, i2), (0, i3), (9, 0)] [] m4 Q := by
    intro nlp6_9
    induction nlp6_9 with
    | zero =>
      intros
      exact absurd (by assumption : _ < 0) (Nat.not_lt_zero _)
    | succ nlp6_9 ihlp6_9 =>
      intro i1 i2 i3 f5 f6 f7 f8 m4 hIm4 hFm4 km4_1_1 km4_1_2 fm4_5 fm4_6 fm4_7 fm4_8 fm4_10 fm4_11 fm4_44 fm4_48 fm4_50 fm4_51 fm4_9 li1 ui1 li2 ui2 li3 ui3 hv0lp6_9 hv1lp6_9 hmlp6_9
      refine zw_3 zr_114_6 rfl ?_
      refine zw_push zr_114_7 ?_
      refine zw_41_3 zr_114_8 ?_ ?_
      · intro h11
        refine zw_3 zr_114_48 rfl ?_
        refine zw_R zr_114_49 (by decide) zm_114 (v := (0, i1)) rfl ?_
        rw [← hQ]; exact ⟨_, rfl, by omega, by omega, hIm4, hFm4, ⟨i2, by have z := hv0lp6_9; rw [show i3 = 4 by omega] at z; exact z⟩⟩
      · intro h13
        refine zw_7 zr_114_11 rfl ?_
        refine zw_46r (s := 43) zr_114_12 rfl rfl rfl rfl ?_
        refine zw_3 zr_114_15 rfl ?_
        refine zw_C zr_114_16 (Or.inl rfl) zm_47 rfl rfl ⟨Nat.le_of_ble_eq_true rfl, Nat.le_of_ble_eq_true rfl, Nat.le_of_ble_eq_true rfl, rfl, by decide⟩ (by omega) (th_47 (d := d - 1) (by omega) hIm4 (a0 := i3) (g0 := g0) (g1 := g1)  (F5 := F5) (F6 := F6) (F7 := F7) (F8 := F8) (F10 := F10) (F11 := F11) (F44 := f5) (F48 := f6) (F50 := f7) (F51 := f8) (F9 := F9) km4_1_1 km4_1_2 fm4_5 fm4_6 fm4_7 fm4_8 fm4_10 fm4_11 fm4_44 fm4_48 fm4_50 fm4_51 fm4_9 (by omega) ) ?_
        rintro _ m14 ⟨r15, rfl, hr15a, hr15b, hIm14, gm14, po0_r15, po1_r15⟩
        have hFm14 : zFr W_114 m0 m14 := hFm4.trans gm14 rfl
        have km14_1_1 : m14 1 1 = g0 := (gm14 1 1 rfl).trans km4_1_1
        have km14_1_2 : m14 1 2 = g1 := (gm14 1 2 rfl).trans km4_1_2
        have fm14_5 : m14 5 = F5 := (funext fun k => gm14 5 k rfl).trans fm4_5
        have fm14_6 : m14 6 = F6 := (funext fun k => gm14 6 k rfl).trans fm4_6
        have fm14_7 : m14 7 = F7 := (funext fun k => gm14 7 k rfl).trans fm4_7
        have fm14_8 : m14 8 = F8 := (funext fun k => gm14 8 k rfl).trans fm4_8
        have fm14_10 : m14 10 = F10 := (funext fun k => gm14 10 k rfl).trans fm4_10
        have fm14_11 : m14 11 = F11 := (funext fun k => gm14 11 k rfl).trans fm4_11
        obtain ⟨f16, fm14_44⟩ : ∃ f, m14 44 = f := ⟨_, rfl⟩
        obtain ⟨f17, fm14_48⟩ : ∃ f, m14 48 = f := ⟨_, rfl⟩
        obtain ⟨f18, fm14_50⟩ : ∃ f, m14 50 = f := ⟨_, rfl⟩
        obtain ⟨f19, fm14_51⟩ : ∃ f, m14 51 = f := ⟨_, rfl⟩
        have fm14_9 : m14 9 = F9 := (funext fun k => gm14 9 k rfl).trans fm4_9
        obtain ⟨f20, ef20⟩ : ∃ v, m14 45 1 = v := ⟨_, rfl⟩
        have bf20 := hIm14.fi (c := 45) (k := 1) rfl
        rw [ef20] at bf20
        rw [ef20] at po1_r15
        show zW E (d) 114 19 [(2, 0), (0, i1), (0, i2), (0, i3), (9, 0)] [(0, r15)] m14 Q
        refine zw_10 (L' := [(2, 0), (0, i1), (0, i2), (0, i3), (0, r15)]) zr_114_19 (Nat.le_of_ble_eq_true rfl) rfl ?_
        refine zw_7 zr_114_21 rfl ?_
        refine zw_46r (s := 43) zr_114_22 rfl rfl rfl rfl ?_
        refine zw_C zr_114_25 (Or.inl rfl) zm_17 rfl rfl ⟨Nat.le_of_ble_eq_true rfl, Nat.le_of_ble_eq_true rfl, Nat.le_of_ble_eq_true rfl, rfl, by decide⟩ (by omega) (P := (fun v m' => zW E (d) 114 28 [(2, 0), (0, i1), (0, i2), (0, i3), (0, r15)] (if v.1 = 9 then [] else v :: []) m' Q)) ?_ (fun _ _ h => h)
        generalize hQ1 : (fun v m' => zW E (d) 114 28 [(2, 0), (0, i1), (0, i2), (0, i3), (0, r15)] (if v.1 = 9 then [] else v :: []) m' Q) = Q1
        show zW E (d - 1) 17 0 [(2, 43)] [] m14 Q1
        refine zw_7 zr_17_0 rfl ?_
        refine zw_46r (s := 45) zr_17_1 rfl rfl rfl rfl ?_
        refine zw_46i zr_17_4 ef20 rfl rfl rfl ?_
        refine zw_push zr_17_7 ?_
        refine zw_41_1 zr_17_8 ?_ ?_
        · intro h21
          refine zw_push zr_17_15 ?_
          refine zw_R zr_17_16 (by decide) zm_17 (v := (0, 0)) (zRetB (by omega)) ?_
          rw [← hQ1]
          show zW E (d) 114 28 [(2, 0), (0, i1), (0, i2), (0, i3), (0, r15)] [(0, 0)] m14 Q
          refine zw_40_4 zr_114_28 ?_ ?_
          · intro h22; omega
          · intro h23
            refine zw_4 zr_114_31 rfl ?_
            refine zw_3 zr_114_33 rfl ?_
            refine zw_41_5 zr_114_34 ?_ ?_
            · intro h24
              refine zw_15 (c := 1) (L' := [(2, 0), (0, i1), (0, i2), (0, (i3 + 1)), (0, r15)]) zr_114_42 rfl (by decide) (by omega) rfl ?_
              refine zw_42 zr_114_45 ?_
              exact zw_less (L := [(2, 0), (0, i1), (0, i2), (0, (i3 + 1)), (9, 0)]) ⟨Or.inr rfl, Or.inr rfl, Or.inr rfl, Or.inr rfl, Or.inl rfl, trivial⟩ (ihlp6_9 (i1) (i2) ((i3 + 1)) (f16) (f17) (f18) (f19) m14 hIm14 hFm14  km14_1_1 km14_1_2 fm14_5 fm14_6 fm14_7 fm14_8 fm14_10 fm14_11 fm14_44 fm14_48 fm14_50 fm14_51 fm14_9 (by omega) (by omega) (by omega) (by omega) (by omega) (by omega) (by first | exact zBc_s (x := r15) hv0lp6_9 (zKcs_i (by rw [Int.toNat_of_nonneg (by omega)]; exact po1_r15) (by rw [Int.toNat_of_nonneg (by omega)]; exact po0_r15) (by omega)) (by omega) (by omega) | exact zBc_s (x := -1) hv0lp6_9 (zKcs_i (by rw [Int.toNat_of_nonneg (by omega)]; exact po1_r15) (by rw [Int.toNat_of_nonneg (by omega)]; exact po0_r15) (by omega)) (by omega) (by omega)) (by omega) (by omega))
            · intro h26
              refine zw_3 zr_114_37 rfl ?_
              refine zw_9 (L' := [(2, 0), (0, i3), (0, i2), (0, i3), (0, r15)]) zr_114_38 (Nat.le_of_ble_eq_true rfl) rfl ?_
              refine zw_4 zr_114_39 rfl ?_
              refine zw_9 (L' := [(2, 0), (0, i3), (0, r15), (0, i3), (0, r15)]) zr_114_41 (Nat.le_of_ble_eq_true rfl) rfl ?_
              refine zw_15 (c := 1) (L' := [(2, 0), (0, i3), (0, r15), (0, (i3 + 1)), (0, r15)]) zr_114_42 rfl (by decide) (by omega) rfl ?_
              refine zw_42 zr_114_45 ?_
              exact zw_less (L := [(2, 0), (0, i3), (0, r15), (0, (i3 + 1)), (9, 0)]) ⟨Or.inr rfl, Or.inr rfl, Or.inr rfl, Or.inr rfl, Or.inl rfl, trivial⟩ (ihlp6_9 (i3) (r15) ((i3 + 1)) (f16) (f17) (f18) (f19) m14 hIm14 hFm14  km14_1_1 km14_1_2 fm14_5 fm14_6 fm14_7 fm14_8 fm14_10 fm14_11 fm14_44 fm14_48 fm14_50 fm14_51 fm14_9 (by omega) (by omega) (by omega) (by omega) (by omega) (by omega) (by first | exact zBc_s (x := r15) hv0lp6_9 (zKcs_i (by rw [Int.toNat_of_nonneg (by omega)]; exact po1_r15) (by rw [Int.toNat_of_nonneg (by omega)]; exact po0_r15) (by omega)) (by omega) (by omega) | exact zBc_s (x := -1) hv0lp6_9 (zKcs_i (by rw [Int.toNat_of_nonneg (by omega)]; exact po1_r15) (by rw [Int.toNat_of_nonneg (by omega)]; exact po0_r15) (by omega)) (by omega) (by omega)) (by omega) (by omega))
        · intro h28
          refine zw_push zr_17_11 ?_
          refine zw_42 zr_17_12 ?_
          refine zw_R zr_17_16 (by decide) zm_17 (v := (0, 1)) (zRetB (by omega)) ?_
          rw [← hQ1]
          show zW E (d) 114 28 [(2, 0), (0, i1), (0, i2), (0, i3), (0, r15)] [(0, 1)] m14 Q
          refine zw_40_4 zr_114_28 ?_ ?_
          · intro h29
            refine zw_15 (c := 1) (L' := [(2, 0), (0, i1), (0, i2), (0, (i3 + 1)), (0, r15)]) zr_114_42 rfl (by decide) (by omega) rfl ?_
            refine zw_42 zr_114_45 ?_
            exact zw_less (L := [(2, 0), (0, i1), (0, i2), (0, (i3 + 1)), (9, 0)]) ⟨Or.inr rfl, Or.inr rfl, Or.inr rfl, Or.inr rfl, Or.inl rfl, trivial⟩ (ihlp6_9 (i1) (i2) ((i3 + 1)) (f16) (f17) (f18) (f19) m14 hIm14 hFm14  km14_1_1 km14_1_2 fm14_5 fm14_6 fm14_7 fm14_8 fm14_10 fm14_11 fm14_44 fm14_48 fm14_50 fm14_51 fm14_9 (by omega) (by omega) (by omega) (by omega) (by omega) (by omega) (by first | exact zBc_s (x := r15) hv0lp6_9 (zKcs_i (by rw [Int.toNat_of_nonneg (by omega)]; exact po1_r15) (by rw [Int.toNat_of_nonneg (by omega)]; exact po0_r15) (by omega)) (by omega) (by omega) | exact zBc_s (x := -1) hv0lp6_9 (zKcs_i (by rw [Int.toNat_of_nonneg (by omega)]; exact po1_r15) (by rw [Int.toNat_of_nonneg (by omega)]; exact po0_r15) (by omega)) (by omega) (by omega)) (by omega) (by omega))
          · intro h31; omega
  exact lp6_9 _ ((-1)) ((-1)) (0) (F44) (F48) (F50) (F51) m0 hI0 hF0  hg0 hg1 hG5 hG6 hG7 hG8 hG10 hG11 hG44 hG48 hG50 hG51 hG9 (by omega) (by omega) (by omega) (by omega) (by omega) (by omega) (zBc_0) (by omega) (Nat.lt_succ_self _)

abbrev W_178 : List (Nat × Nat) := [(69, 5), (69, 6), (69, 7), (69, 9), (69, 11), (69, 13), (69, 17), (69, 18), (73, 1000), (74, 1000), (75, 1000), (76, 1000), (77, 1000), (78, 1000)]
set_option maxHeartbeats 8000000 in
theorem th_178 {E : zE} {d : Nat} {m0 : zM} {g0 : Int} {F70 : Nat → Int} {F75 : Nat → Int} (hd : 7 ≤ d) (hI0 : zInv m0) (hg0 : m0 70 823 = g0) (hG70 : m0 70 = F70) (hG75 : m0 75 = F75) : zC E d 178 [(2, 69)] m0 (fun v m' => ∃ r : Int, v = (0, r) ∧ (-1) ≤ r ∧ r ≤ 3 ∧ zInv m' ∧ zFr W_178 m0 m' ∧ (∃ bm, zBr2 (fun s => zKr (cht F70 s) (psr (cht F70 s) (fun i => F70 (91 + 6 * i)) (fun i => F70 (92 + 6 * i)) (fun i => F70 (93 + 6 * i)) (fun i => F70 (90 + 6 * i)) (fun i => F70 (94 + 6 * i))) (cft (fun i => F70 (91 + 6 * i)) (fun i => F70 (92 + 6 * i)) (fun i => F70 (93 + 6 * i)) (fun i => F70 (94 + 6 * i))) (F70 (450 + 52 * (s : Int)).toNat) g0) 4 r bm)) := by
  have hF0 : zFr W_178 m0 m0 := zFr.rfl
  have bg0 : 0 ≤ m0 70 823 ∧ m0 70 823 ≤ 60 := ib_70_meetings hI0 (by omega)
  rw [hg0] at bg0
  generalize hQ : (fun (v : zV) (m' : zM) => ∃ r : Int, v = (0, r) ∧ (-1) ≤ r ∧ r ≤ 3 ∧ zInv m' ∧ zFr W_178 m0 m' ∧ (∃ bm, zBr2 (fun s => zKr (cht F70 s) (psr (cht F70 s) (fun i => F70 (91 + 6 * i)) (fun i => F70 (92 + 6 * i)) (fun i => F70 (93 + 6 * i)) (fun i => F70 (90 + 6 * i)) (fun i => F70 (94 + 6 * i))) (cft (fun i => F70 (91 + 6 * i)) (fun i => F70 (92 + 6 * i)) (fun i => F70 (93 + 6 * i)) (fun i => F70 (94 + 6 * i))) (F70 (450 + 52 * (s : Int)).toNat) g0) 4 r bm)) = Q
  show zW E d 178 0 [(2, 69), (9, 0), (9, 0), (9, 0), (9, 0)] [] m0 Q
  refine zw_push zr_178_0 ?_
  refine zw_9 (L' := [(2, 69), (0, (-1)), (9, 0), (9, 0), (9, 0)]) zr_178_1 (Nat.le_of_ble_eq_true rfl) rfl ?_
  refine zw_push zr_178_2 ?_
  refine zw_9 (L' := [(2, 69), (0, (-1)), (0, 0), (9, 0), (9, 0)]) zr_178_3 (Nat.le_of_ble_eq_true rfl) rfl ?_
  refine zw_push zr_178_4 ?_
  refine zw_9 (L' := [(2, 69), (0, (-1)), (0, 0), (0, 0), (9, 0)]) zr_178_5 (Nat.le_of_ble_eq_true rfl) rfl ?_
  have lp6_6 : ∀ (nlp6_6 : Nat) (i1 i2 i3 : Int) (f5 : Nat → Int) (m4 : zM), zInv m4 → zFr W_178 m0 m4 → m4 70 823 = g0 → m4 70 = F70 → m4 75 = f5 → (-1) ≤ i1 → i1 ≤ 3 → 0 ≤ i2 → i2 ≤ 200 → 0 ≤ i3 → i3 ≤ 4 → (zBr2 (fun s => zKr (cht F70 s) (psr (cht F70 s) (fun i => F70 (91 + 6 * i)) (fun i => F70 (92 + 6 * i)) (fun i => F70 (93 + 6 * i)) (fun i => F70 (90 + 6 * i)) (fun i => F70 (94 + 6 * i))) (cft (fun i => F70 (91 + 6 * i)) (fun i => F70 (92 + 6 * i)) (fun i => F70 (93 + 6 * i)) (fun i => F70 (94 + 6 * i))) (F70 (450 + 52 * (s : Int)).toNat) g0) i3 i1 i2) → (-1 ≤ i1 ∧ 0 ≤ i2) → (4 - i3).toNat < nlp6_6 → zW E (d) 178 6 [(2, 69), (0, i1), (0, i2), (0, i3), (9, 0)] [] m4 Q := by
    intro nlp6_6
    induction nlp6_6 with
    | zero =>
      intros
      exact absurd (by assumption : _ < 0) (Nat.not_lt_zero _)
    | succ nlp6_6 ihlp6_6 =>
      intro i1 i2 i3 f5 m4 hIm4 hFm4 km4_70_823 fm4_70 fm4_75 li1 ui1 li2 ui2 li3 ui3 hv0lp6_6 hv1lp6_6 hmlp6_6
      refine zw_3 zr_178_6 rfl ?_
      refine zw_push zr_178_7 ?_
      refine zw_41_3 zr_178_8 ?_ ?_
      · intro h8
        refine zw_3 zr_178_48 rfl ?_
        refine zw_R zr_178_49 (by decide) zm_178 (v := (0, i1)) rfl ?_
        rw [← hQ]; exact ⟨_, rfl, by omega, by omega, hIm4, hFm4, ⟨i2, by have z := hv0lp6_6; rw [show i3 = 4 by omega] at z; exact z⟩⟩
      · intro h10
        refine zw_7 zr_178_11 rfl ?_
        refine zw_3 zr_178_12 rfl ?_
        refine zw_C zr_178_13 (Or.inl rfl) zm_162 rfl rfl ⟨Nat.le_of_ble_eq_true rfl, Nat.le_of_ble_eq_true rfl, Nat.le_of_ble_eq_true rfl, rfl, by decide⟩ (by omega) (th_162 (d := d - 1) (by omega) hIm4 (a0 := i3)   (F70 := F70) (F75 := f5)  fm4_70 fm4_75 (by omega) ) ?_
        rintro _ m11 ⟨r12, rfl, hr12a, hr12b, hIm11, gm11, po0_r12, po1_r12⟩
        have hFm11 : zFr W_178 m0 m11 := hFm4.trans gm11 rfl
        have km11_70_823 : m11 70 823 = g0 := (gm11 70 823 rfl).trans km4_70_823
        have fm11_70 : m11 70 = F70 := (funext fun k => gm11 70 k rfl).trans fm4_70
        have fm11_75 : m11 75 = f5 := (funext fun k => gm11 75 k rfl).trans fm4_75
        obtain ⟨f13, ef13⟩ : ∃ v, m11 69 7 = v := ⟨_, rfl⟩
        have bf13 := hIm11.fi (c := 69) (k := 7) rfl
        rw [ef13] at bf13
        rw [ef13] at po0_r12
        rw [ef13] at po1_r12
        obtain ⟨f14, ef14⟩ : ∃ v, m11 69 13 = v := ⟨_, rfl⟩
        have bf14 := hIm11.fl (c := 69) (k := 13) rfl
        rw [ef14] at bf14
        rw [ef14] at po0_r12
        show zW E (d) 178 16 [(2, 69), (0, i1), (0, i2), (0, i3), (9, 0)] [(0, r12)] m11 Q
        refine zw_40_1 zr_178_16 ?_ ?_
        · intro h15
          refine zw_15 (c := 1) (L' := [(2, 69), (0, i1), (0, i2), (0, (i3 + 1)), (9, 0)]) zr_178_42 rfl (by decide) (by omega) rfl ?_
          refine zw_42 zr_178_45 ?_
          exact zw_less (L := [(2, 69), (0, i1), (0, i2), (0, (i3 + 1)), (9, 0)]) ⟨Or.inr rfl, Or.inr rfl, Or.inr rfl, Or.inr rfl, Or.inl rfl, trivial⟩ (ihlp6_6 (i1) (i2) ((i3 + 1)) (f5) m11 hIm11 hFm11  km11_70_823 fm11_70 fm11_75 (by omega) (by omega) (by omega) (by omega) (by omega) (by omega) (by first | exact zBr2_s (x := zz) hv0lp6_6 (by rw [Int.toNat_of_nonneg (by omega)]; exact ⟨_, _, _, po0_r12, Or.inr ⟨by omega, zz⟩⟩) (by omega) (by omega) | exact zBr2_s (x := -1) hv0lp6_6 (by rw [Int.toNat_of_nonneg (by omega)]; exact ⟨_, _, _, po0_r12, Or.inl ⟨by omega, rfl⟩⟩) (by omega) (by omega)) (by omega) (by omega))
        · intro h17
          refine zw_7 zr_178_19 rfl ?_
          refine zw_3 zr_178_20 rfl ?_
          refine zw_C zr_178_21 (Or.inl rfl) zm_176 rfl rfl ⟨Nat.le_of_ble_eq_true rfl, Nat.le_of_ble_eq_true rfl, Nat.le_of_ble_eq_true rfl, rfl, by decide⟩ (by omega) (th_176 (d := d - 1) (by omega) hIm11 (a0 := i3) (g0 := g0)  (F70 := F70) (F76 := m11 76) (F77 := m11 77) (F78 := m11 78) km11_70_823 fm11_70 rfl rfl rfl (by omega) ) ?_
          rintro _ m18 ⟨r19, rfl, hr19a, hr19b, hIm18, gm18, po0_r19⟩
          have hFm18 : zFr W_178 m0 m18 := hFm11.trans gm18 rfl
          have km18_70_823 : m18 70 823 = g0 := (gm18 70 823 rfl).trans km11_70_823
          have fm18_70 : m18 70 = F70 := (funext fun k => gm18 70 k rfl).trans fm11_70
          obtain ⟨f20, fm18_75⟩ : ∃ f, m18 75 = f := ⟨_, rfl⟩
          show zW E (d) 178 24 [(2, 69), (0, i1), (0, i2), (0, i3), (9, 0)] [(0, r19)] m18 Q
          refine zw_10 (L' := [(2, 69), (0, i1), (0, i2), (0, i3), (0, r19)]) zr_178_24 (Nat.le_of_ble_eq_true rfl) rfl ?_
          refine zw_3 zr_178_26 rfl ?_
          refine zw_push zr_178_27 ?_
          refine zw_41_1 zr_178_28 ?_ ?_
          · intro h21
            refine zw_3 zr_178_37 rfl ?_
            refine zw_9 (L' := [(2, 69), (0, i3), (0, i2), (0, i3), (0, r19)]) zr_178_38 (Nat.le_of_ble_eq_true rfl) rfl ?_
            refine zw_4 zr_178_39 rfl ?_
            refine zw_9 (L' := [(2, 69), (0, i3), (0, r19), (0, i3), (0, r19)]) zr_178_41 (Nat.le_of_ble_eq_true rfl) rfl ?_
            refine zw_15 (c := 1) (L' := [(2, 69), (0, i3), (0, r19), (0, (i3 + 1)), (0, r19)]) zr_178_42 rfl (by decide) (by omega) rfl ?_
            refine zw_42 zr_178_45 ?_
            exact zw_less (L := [(2, 69), (0, i3), (0, r19), (0, (i3 + 1)), (9, 0)]) ⟨Or.inr rfl, Or.inr rfl, Or.inr rfl, Or.inr rfl, Or.inl rfl, trivial⟩ (ihlp6_6 (i3) (r19) ((i3 + 1)) (f20) m18 hIm18 hFm18  km18_70_823 fm18_70 fm18_75 (by omega) (by omega) (by omega) (by omega) (by omega) (by omega) (by first | exact zBr2_s (x := r19) hv0lp6_6 (by rw [Int.toNat_of_nonneg (by omega)]; exact ⟨_, _, _, po0_r12, Or.inr ⟨by omega, po0_r19⟩⟩) (by omega) (by omega) | exact zBr2_s (x := -1) hv0lp6_6 (by rw [Int.toNat_of_nonneg (by omega)]; exact ⟨_, _, _, po0_r12, Or.inl ⟨by omega, rfl⟩⟩) (by omega) (by omega)) (by omega) (by omega))
          · intro h23
            refine zw_4 zr_178_31 rfl ?_
            refine zw_3 zr_178_33 rfl ?_
            refine zw_41_5 zr_178_34 ?_ ?_
            · intro h24
              refine zw_15 (c := 1) (L' := [(2, 69), (0, i1), (0, i2), (0, (i3 + 1)), (0, r19)]) zr_178_42 rfl (by decide) (by omega) rfl ?_
              refine zw_42 zr_178_45 ?_
              exact zw_less (L := [(2, 69), (0, i1), (0, i2), (0, (i3 + 1)), (9, 0)]) ⟨Or.inr rfl, Or.inr rfl, Or.inr rfl, Or.inr rfl, Or.inl rfl, trivial⟩ (ihlp6_6 (i1) (i2) ((i3 + 1)) (f20) m18 hIm18 hFm18  km18_70_823 fm18_70 fm18_75 (by omega) (by omega) (by omega) (by omega) (by omega) (by omega) (by first | exact zBr2_s (x := r19) hv0lp6_6 (by rw [Int.toNat_of_nonneg (by omega)]; exact ⟨_, _, _, po0_r12, Or.inr ⟨by omega, po0_r19⟩⟩) (by omega) (by omega) | exact zBr2_s (x := -1) hv0lp6_6 (by rw [Int.toNat_of_nonneg (by omega)]; exact ⟨_, _, _, po0_r12, Or.inl ⟨by omega, rfl⟩⟩) (by omega) (by omega)) (by omega) (by omega))
            · intro h26
              refine zw_3 zr_178_37 rfl ?_
              refine zw_9 (L' := [(2, 69), (0, i3), (0, i2), (0, i3), (0, r19)]) zr_178_38 (Nat.le_of_ble_eq_true rfl) rfl ?_
              refine zw_4 zr_178_39 rfl ?_
              refine zw_9 (L' := [(2, 69), (0, i3), (0, r19), (0, i3), (0, r19)]) zr_178_41 (Nat.le_of_ble_eq_true rfl) rfl ?_
              refine zw_15 (c := 1) (L' := [(2, 69), (0, i3), (0, r19), (0, (i3 + 1)), (0, r19)]) zr_178_42 rfl (by decide) (by omega) rfl ?_
              refine zw_42 zr_178_45 ?_
              exact zw_less (L := [(2, 69), (0, i3), (0, r19), (0, (i3 + 1)), (9, 0)]) ⟨Or.inr rfl, Or.inr rfl, Or.inr rfl, Or.inr rfl, Or.inl rfl, trivial⟩ (ihlp6_6 (i3) (r19) ((i3 + 1)) (f20) m18 hIm18 hFm18  km18_70_823 fm18_70 fm18_75 (by omega) (by omega) (by omega) (by omega) (by omega) (by omega) (by first | exact zBr2_s (x := r19) hv0lp6_6 (by rw [Int.toNat_of_nonneg (by omega)]; exact ⟨_, _, _, po0_r12, Or.inr ⟨by omega, po0_r19⟩⟩) (by omega) (by omega) | exact zBr2_s (x := -1) hv0lp6_6 (by rw [Int.toNat_of_nonneg (by omega)]; exact ⟨_, _, _, po0_r12, Or.inl ⟨by omega, rfl⟩⟩) (by omega) (by omega)) (by omega) (by omega))
  exact lp6_6 _ ((-1)) (0) (0) (F75) m0 hI0 hF0  hg0 hG70 hG75 (by omega) (by omega) (by omega) (by omega) (by omega) (by omega) (zBr2_0) (by omega) (Nat.lt_succ_self _)

abbrev W_115 : List (Nat × Nat) := [(12, 1000)]
set_option maxHeartbeats 8000000 in
theorem th_115 {E : zE} {d : Nat} {m0 : zM} {a0 : Int} {a1 : Int} {F12 : Nat → Int} (hd : 2 ≤ d) (hI0 : zInv m0) (hG12 : m0 12 = F12) (ha0 : (-2147483648) ≤ a0 ∧ a0 ≤ 2147483647) (ha1 : (-2147483648) ≤ a1 ∧ a1 ≤ 2147483647) : zC E d 115 [(2, 0), (0, a0), (0, a1)] m0 (fun v m' => ∃ r : Int, v = (0, r) ∧ (-100000) ≤ r ∧ r ≤ 500 ∧ zInv m' ∧ zFr W_115 m0 m' ∧ ((r = -100000 ∧ (a0 < 0 ∨ 159 < a0 ∨ a1 < -500 ∨ 500 < a1)) ∨ (0 ≤ a0 ∧ a0 ≤ 159 ∧ -500 ≤ a1 ∧ a1 ≤ 500 ∧ -500 ≤ r ∧ r = F12 a0.toNat)) ∧ (m' 12 = if -500 ≤ r then zPt F12 a0.toNat a1 else F12)) := by
  have hF0 : zFr W_115 m0 m0 := zFr.rfl
  generalize hQ : (fun (v : zV) (m' : zM) => ∃ r : Int, v = (0, r) ∧ (-100000) ≤ r ∧ r ≤ 500 ∧ zInv m' ∧ zFr W_115 m0 m' ∧ ((r = -100000 ∧ (a0 < 0 ∨ 159 < a0 ∨ a1 < -500 ∨ 500 < a1)) ∨ (0 ≤ a0 ∧ a0 ≤ 159 ∧ -500 ≤ a1 ∧ a1 ≤ 500 ∧ -500 ≤ r ∧ r = F12 a0.toNat)) ∧ (m' 12 = if -500 ≤ r then zPt F12 a0.toNat a1 else F12)) = Q
  show zW E d 115 0 [(2, 0), (0, a0), (0, a1), (9, 0)] [] m0 Q
  refine zw_3 zr_115_0 rfl ?_
  refine zw_push zr_115_1 ?_
  refine zw_push zr_115_2 ?_
  refine zw_C zr_115_5 (Or.inr rfl) zm_100 rfl rfl ⟨Nat.le_of_ble_eq_true rfl, Nat.le_of_ble_eq_true rfl, Nat.le_of_ble_eq_true rfl, rfl, by decide⟩ (by omega) (P := (fun v m' => zW E (d) 115 8 [(2, 0), (0, a0), (0, a1), (9, 0)] (if v.1 = 9 then [] else v :: []) m' Q)) ?_ (fun _ _ h => h)
  generalize hQ1 : (fun v m' => zW E (d) 115 8 [(2, 0), (0, a0), (0, a1), (9, 0)] (if v.1 = 9 then [] else v :: []) m' Q) = Q1
  show zW E (d - 1) 100 0 [(0, a0), (0, 0), (0, 159)] [] m0 Q1
  refine zw_3 zr_100_0 rfl ?_
  refine zw_3 zr_100_1 rfl ?_
  refine zw_41_0 zr_100_2 ?_ ?_
  · intro h1
    refine zw_push zr_100_14 ?_
    refine zw_R zr_100_15 (by decide) zm_100 (v := (0, 0)) (zRetB (by omega)) ?_
    rw [← hQ1]
    show zW E (d) 115 8 [(2, 0), (0, a0), (0, a1), (9, 0)] [(0, 0)] m0 Q
    refine zw_40_1 zr_115_8 ?_ ?_
    · intro h2
      refine zw_push zr_115_24 ?_
      refine zw_R zr_115_26 (by decide) zm_115 (v := (0, (-100000))) rfl ?_
      rw [← hQ]; exact ⟨_, rfl, by omega, by omega, hI0, hF0, by omega, by rw [hG12]; first | exact (if_neg (by omega)).symm | exact (if_pos (by omega)).symm⟩
    · intro h5; omega
  · intro h6
    refine zw_3 zr_100_5 rfl ?_
    refine zw_3 zr_100_6 rfl ?_
    refine zw_41_2 zr_100_7 ?_ ?_
    · intro h7
      refine zw_push zr_100_14 ?_
      refine zw_R zr_100_15 (by decide) zm_100 (v := (0, 0)) (zRetB (by omega)) ?_
      rw [← hQ1]
      show zW E (d) 115 8 [(2, 0), (0, a0), (0, a1), (9, 0)] [(0, 0)] m0 Q
      refine zw_40_1 zr_115_8 ?_ ?_
      · intro h8
        refine zw_push zr_115_24 ?_
        refine zw_R zr_115_26 (by decide) zm_115 (v := (0, (-100000))) rfl ?_
        rw [← hQ]; exact ⟨_, rfl, by omega, by omega, hI0, hF0, by omega, by rw [hG12]; first | exact (if_neg (by omega)).symm | exact (if_pos (by omega)).symm⟩
      · intro h11; omega
    · intro h12
      refine zw_push zr_100_10 ?_
      refine zw_42 zr_100_11 ?_
      refine zw_R zr_100_15 (by decide) zm_100 (v := (0, 1)) (zRetB (by omega)) ?_
      rw [← hQ1]
      show zW E (d) 115 8 [(2, 0), (0, a0), (0, a1), (9, 0)] [(0, 1)] m0 Q
      refine zw_40_1 zr_115_8 ?_ ?_
      · intro h13; omega
      · intro h14
        refine zw_3 zr_115_11 rfl ?_
        refine zw_push zr_115_12 ?_
        refine zw_push zr_115_15 ?_
        refine zw_C zr_115_18 (Or.inr rfl) zm_100 rfl rfl ⟨Nat.le_of_ble_eq_true rfl, Nat.le_of_ble_eq_true rfl, Nat.le_of_ble_eq_true rfl, rfl, by decide⟩ (by omega) (P := (fun v m' => zW E (d) 115 21 [(2, 0), (0, a0), (0, a1), (9, 0)] (if v.1 = 9 then [] else v :: []) m' Q)) ?_ (fun _ _ h => h)
        generalize hQ1 : (fun v m' => zW E (d) 115 21 [(2, 0), (0, a0), (0, a1), (9, 0)] (if v.1 = 9 then [] else v :: []) m' Q) = Q1
        show zW E (d - 1) 100 0 [(0, a1), (0, (-500)), (0, 500)] [] m0 Q1
        refine zw_3 zr_100_0 rfl ?_
        refine zw_3 zr_100_1 rfl ?_
        refine zw_41_0 zr_100_2 ?_ ?_
        · intro h15
          refine zw_push zr_100_14 ?_
          refine zw_R zr_100_15 (by decide) zm_100 (v := (0, 0)) (zRetB (by omega)) ?_
          rw [← hQ1]
          show zW E (d) 115 21 [(2, 0), (0, a0), (0, a1), (9, 0)] [(0, 0)] m0 Q
          refine zw_40_4 zr_115_21 ?_ ?_
          · intro h16; omega
          · intro h17
            refine zw_push zr_115_24 ?_
            refine zw_R zr_115_26 (by decide) zm_115 (v := (0, (-100000))) rfl ?_
            rw [← hQ]; exact ⟨_, rfl, by omega, by omega, hI0, hF0, by omega, by rw [hG12]; first | exact (if_neg (by omega)).symm | exact (if_pos (by omega)).symm⟩
        · intro h20
          refine zw_3 zr_100_5 rfl ?_
          refine zw_3 zr_100_6 rfl ?_
          refine zw_41_2 zr_100_7 ?_ ?_
          · intro h21
            refine zw_push zr_100_14 ?_
            refine zw_R zr_100_15 (by decide) zm_100 (v := (0, 0)) (zRetB (by omega)) ?_
            rw [← hQ1]
            show zW E (d) 115 21 [(2, 0), (0, a0), (0, a1), (9, 0)] [(0, 0)] m0 Q
            refine zw_40_4 zr_115_21 ?_ ?_
            · intro h22; omega
            · intro h23
              refine zw_push zr_115_24 ?_
              refine zw_R zr_115_26 (by decide) zm_115 (v := (0, (-100000))) rfl ?_
              rw [← hQ]; exact ⟨_, rfl, by omega, by omega, hI0, hF0, by omega, by rw [hG12]; first | exact (if_neg (by omega)).symm | exact (if_pos (by omega)).symm⟩
          · intro h26
            refine zw_push zr_100_10 ?_
            refine zw_42 zr_100_11 ?_
            refine zw_R zr_100_15 (by decide) zm_100 (v := (0, 1)) (zRetB (by omega)) ?_
            rw [← hQ1]
            show zW E (d) 115 21 [(2, 0), (0, a0), (0, a1), (9, 0)] [(0, 1)] m0 Q
            refine zw_40_4 zr_115_21 ?_ ?_
            · intro h27
              refine zw_7 zr_115_27 rfl ?_
              refine zw_46r (s := 1) zr_115_28 rfl rfl rfl rfl ?_
              refine zw_46r (s := 12) zr_115_31 rfl rfl rfl rfl ?_
              refine zw_3 zr_115_34 rfl ?_
              refine zw_48 (c := 12) (len := 160) zr_115_35 rfl rfl (by omega) (by omega) ?_
              intro x28 ex28
              have bx28 := ib_12 hI0 (k := (a0).toNat) (by omega)
              rw [← ex28] at bx28
              have qx28 : x28 = F12 (a0).toNat := by rw [← hG12]; exact ex28
              clear ex28
              refine zw_9 (L' := [(2, 0), (0, a0), (0, a1), (0, x28)]) zr_115_36 (Nat.le_of_ble_eq_true rfl) rfl ?_
              refine zw_7 zr_115_37 rfl ?_
              refine zw_46r (s := 1) zr_115_38 rfl rfl rfl rfl ?_
              refine zw_46r (s := 12) zr_115_41 rfl rfl rfl rfl ?_
              refine zw_3 zr_115_44 rfl ?_
              refine zw_3 zr_115_45 rfl ?_
              refine zw_49 (c := 12) (len := 160) zr_115_46 rfl rfl (by omega) (by omega) ?_
              intro m29 em29
              have hIm29 : zInv m29 := by rw [em29]; exact iu_12 hI0 (by omega)
              have hFm29 : zFr W_115 m0 m29 := by rw [em29]; exact hF0.any rfl
              have fm29_12 : m29 12 = zPt F12 ((a0).toNat) a1 := by rw [em29]; exact (zUp_ff (m := m0)).trans (congrArg (fun q => zPt q ((a0).toNat) a1) hG12)
              clear em29
              refine zw_3 zr_115_47 rfl ?_
              refine zw_R zr_115_48 (by decide) zm_115 (v := (0, x28)) rfl ?_
              rw [← hQ]; exact ⟨_, rfl, by omega, by omega, hIm29, hFm29, by omega, by rw [fm29_12]; first | exact (if_neg (by omega)).symm | exact (if_pos (by omega)).symm⟩
            · intro h32; omega

abbrev W_179 : List (Nat × Nat) := [(70, 1000)]
set_option maxHeartbeats 8000000 in
theorem th_179 {E : zE} {d : Nat} {m0 : zM} {a0 : Int} {a1 : Int} {F70 : Nat → Int} (hd : 2 ≤ d) (hI0 : zInv m0) (hG70 : m0 70 = F70) (ha0 : (-2147483648) ≤ a0 ∧ a0 ≤ 2147483647) (ha1 : (-2147483648) ≤ a1 ∧ a1 ≤ 2147483647) : zC E d 179 [(2, 69), (0, a0), (0, a1)] m0 (fun v m' => ∃ r : Int, v = (0, r) ∧ (-100000) ≤ r ∧ r ≤ 500 ∧ zInv m' ∧ zFr W_179 m0 m' ∧ ((r = -100000 ∧ (a0 < 0 ∨ 159 < a0 ∨ a1 < -500 ∨ 500 < a1)) ∨ (0 ≤ a0 ∧ a0 ≤ 159 ∧ -500 ≤ a1 ∧ a1 ≤ 500 ∧ -500 ≤ r ∧ r = F70 (658 + a0).toNat)) ∧ (m' 70 = if -500 ≤ r then zPt F70 (658 + a0).toNat a1 else F70)) := by
  have hF0 : zFr W_179 m0 m0 := zFr.rfl
  generalize hQ : (fun (v : zV) (m' : zM) => ∃ r : Int, v = (0, r) ∧ (-100000) ≤ r ∧ r ≤ 500 ∧ zInv m' ∧ zFr W_179 m0 m' ∧ ((r = -100000 ∧ (a0 < 0 ∨ 159 < a0 ∨ a1 < -500 ∨ 500 < a1)) ∨ (0 ≤ a0 ∧ a0 ≤ 159 ∧ -500 ≤ a1 ∧ a1 ≤ 500 ∧ -500 ≤ r ∧ r = F70 (658 + a0).toNat)) ∧ (m' 70 = if -500 ≤ r then zPt F70 (658 + a0).toNat a1 else F70)) = Q
  show zW E d 179 0 [(2, 69), (0, a0), (0, a1), (9, 0)] [] m0 Q
  refine zw_3 zr_179_0 rfl ?_
  refine zw_36 zr_179_1 ?_
  refine zw_push zr_179_2 ?_
  refine zw_push zr_179_3 ?_
  refine zw_C zr_179_6 (Or.inr rfl) zm_140 rfl rfl ⟨Nat.le_of_ble_eq_true rfl, Nat.le_of_ble_eq_true rfl, Nat.le_of_ble_eq_true rfl, rfl, by decide⟩ (by omega) (P := (fun v m' => zW E (d) 179 9 [(2, 69), (0, a0), (0, a1), (9, 0)] (if v.1 = 9 then [] else v :: []) m' Q)) ?_ (fun _ _ h => h)
  generalize hQ1 : (fun v m' => zW E (d) 179 9 [(2, 69), (0, a0), (0, a1), (9, 0)] (if v.1 = 9 then [] else v :: []) m' Q) = Q1
  show zW E (d - 1) 140 0 [(1, a0), (9, 0), (1, 0), (9, 0), (1, 159), (9, 0)] [] m0 Q1
  refine zw_5 zr_140_0 rfl ?_
  refine zw_5 zr_140_1 rfl ?_
  refine zw_39_0 zr_140_2 zr_140_3 ?_ ?_
  · intro h1
    refine zw_push zr_140_17 ?_
    refine zw_R zr_140_18 (by decide) zm_140 (v := (0, 0)) (zRetB (by omega)) ?_
    rw [← hQ1]
    show zW E (d) 179 9 [(2, 69), (0, a0), (0, a1), (9, 0)] [(0, 0)] m0 Q
    refine zw_40_1 zr_179_9 ?_ ?_
    · intro h2
      refine zw_push zr_179_26 ?_
      refine zw_R zr_179_28 (by decide) zm_179 (v := (0, (-100000))) rfl ?_
      rw [← hQ]; exact ⟨_, rfl, by omega, by omega, hI0, hF0, by omega, by rw [hG70]; first | exact (if_neg (by omega)).symm | exact (if_pos (by omega)).symm⟩
    · intro h5; omega
  · intro h6
    refine zw_5 zr_140_6 rfl ?_
    refine zw_6 zr_140_7 rfl ?_
    refine zw_39_2 zr_140_9 zr_140_10 ?_ ?_
    · intro h7
      refine zw_push zr_140_17 ?_
      refine zw_R zr_140_18 (by decide) zm_140 (v := (0, 0)) (zRetB (by omega)) ?_
      rw [← hQ1]
      show zW E (d) 179 9 [(2, 69), (0, a0), (0, a1), (9, 0)] [(0, 0)] m0 Q
      refine zw_40_1 zr_179_9 ?_ ?_
      · intro h8
        refine zw_push zr_179_26 ?_
        refine zw_R zr_179_28 (by decide) zm_179 (v := (0, (-100000))) rfl ?_
        rw [← hQ]; exact ⟨_, rfl, by omega, by omega, hI0, hF0, by omega, by rw [hG70]; first | exact (if_neg (by omega)).symm | exact (if_pos (by omega)).symm⟩
      · intro h11; omega
    · intro h12
      refine zw_push zr_140_13 ?_
      refine zw_42 zr_140_14 ?_
      refine zw_R zr_140_18 (by decide) zm_140 (v := (0, 1)) (zRetB (by omega)) ?_
      rw [← hQ1]
      show zW E (d) 179 9 [(2, 69), (0, a0), (0, a1), (9, 0)] [(0, 1)] m0 Q
      refine zw_40_1 zr_179_9 ?_ ?_
      · intro h13; omega
      · intro h14
        refine zw_3 zr_179_12 rfl ?_
        refine zw_36 zr_179_13 ?_
        refine zw_push zr_179_14 ?_
        refine zw_push zr_179_17 ?_
        refine zw_C zr_179_20 (Or.inr rfl) zm_140 rfl rfl ⟨Nat.le_of_ble_eq_true rfl, Nat.le_of_ble_eq_true rfl, Nat.le_of_ble_eq_true rfl, rfl, by decide⟩ (by omega) (P := (fun v m' => zW E (d) 179 23 [(2, 69), (0, a0), (0, a1), (9, 0)] (if v.1 = 9 then [] else v :: []) m' Q)) ?_ (fun _ _ h => h)
        generalize hQ1 : (fun v m' => zW E (d) 179 23 [(2, 69), (0, a0), (0, a1), (9, 0)] (if v.1 = 9 then [] else v :: []) m' Q) = Q1
        show zW E (d - 1) 140 0 [(1, a1), (9, 0), (1, (-500)), (9, 0), (1, 500), (9, 0)] [] m0 Q1
        refine zw_5 zr_140_0 rfl ?_
        refine zw_5 zr_140_1 rfl ?_
        refine zw_39_0 zr_140_2 zr_140_3 ?_ ?_
        · intro h15
          refine zw_push zr_140_17 ?_
          refine zw_R zr_140_18 (by decide) zm_140 (v := (0, 0)) (zRetB (by omega)) ?_
          rw [← hQ1]
          show zW E (d) 179 23 [(2, 69), (0, a0), (0, a1), (9, 0)] [(0, 0)] m0 Q
          refine zw_40_4 zr_179_23 ?_ ?_
          · intro h16; omega
          · intro h17
            refine zw_push zr_179_26 ?_
            refine zw_R zr_179_28 (by decide) zm_179 (v := (0, (-100000))) rfl ?_
            rw [← hQ]; exact ⟨_, rfl, by omega, by omega, hI0, hF0, by omega, by rw [hG70]; first | exact (if_neg (by omega)).symm | exact (if_pos (by omega)).symm⟩
        · intro h20
          refine zw_5 zr_140_6 rfl ?_
          refine zw_6 zr_140_7 rfl ?_
          refine zw_39_2 zr_140_9 zr_140_10 ?_ ?_
          · intro h21
            refine zw_push zr_140_17 ?_
            refine zw_R zr_140_18 (by decide) zm_140 (v := (0, 0)) (zRetB (by omega)) ?_
            rw [← hQ1]
            show zW E (d) 179 23 [(2, 69), (0, a0), (0, a1), (9, 0)] [(0, 0)] m0 Q
            refine zw_40_4 zr_179_23 ?_ ?_
            · intro h22; omega
            · intro h23
              refine zw_push zr_179_26 ?_
              refine zw_R zr_179_28 (by decide) zm_179 (v := (0, (-100000))) rfl ?_
              rw [← hQ]; exact ⟨_, rfl, by omega, by omega, hI0, hF0, by omega, by rw [hG70]; first | exact (if_neg (by omega)).symm | exact (if_pos (by omega)).symm⟩
          · intro h26
            refine zw_push zr_140_13 ?_
            refine zw_42 zr_140_14 ?_
            refine zw_R zr_140_18 (by decide) zm_140 (v := (0, 1)) (zRetB (by omega)) ?_
            rw [← hQ1]
            show zW E (d) 179 23 [(2, 69), (0, a0), (0, a1), (9, 0)] [(0, 1)] m0 Q
            refine zw_40_4 zr_179_23 ?_ ?_
            · intro h27
              refine zw_7 zr_179_29 rfl ?_
              refine zw_46r (s := 70) zr_179_30 rfl rfl rfl rfl ?_
              refine zw_push zr_179_33 ?_
              refine zw_3 zr_179_36 rfl ?_
              refine zw_16 zr_179_37 (by omega) ?_
              refine zw_48 (c := 70) (len := 826) zr_179_38 rfl rfl (by omega) (by omega) ?_
              intro x28 ex28
              have bx28 := ib_70_shape hI0 (k := ((658 + a0)).toNat) (by omega)
              rw [← ex28] at bx28
              have qx28 : x28 = F70 ((658 + a0)).toNat := by rw [← hG70]; exact ex28
              clear ex28
              refine zw_9 (L' := [(2, 69), (0, a0), (0, a1), (0, x28)]) zr_179_39 (Nat.le_of_ble_eq_true rfl) rfl ?_
              refine zw_7 zr_179_40 rfl ?_
              refine zw_46r (s := 70) zr_179_41 rfl rfl rfl rfl ?_
              refine zw_push zr_179_44 ?_
              refine zw_3 zr_179_47 rfl ?_
              refine zw_16 zr_179_48 (by omega) ?_
              refine zw_3 zr_179_49 rfl ?_
              refine zw_49 (c := 70) (len := 826) zr_179_50 rfl rfl (by omega) (by omega) ?_
              intro m29 em29
              have hIm29 : zInv m29 := by rw [em29]; exact iu_70_shape hI0 (by omega) (by omega)
              have hFm29 : zFr W_179 m0 m29 := by rw [em29]; exact hF0.any rfl
              have fm29_70 : m29 70 = zPt F70 (((658 + a0)).toNat) a1 := by rw [em29]; exact (zUp_ff (m := m0)).trans (congrArg (fun q => zPt q (((658 + a0)).toNat) a1) hG70)
              clear em29
              refine zw_3 zr_179_51 rfl ?_
              refine zw_R zr_179_52 (by decide) zm_179 (v := (0, x28)) rfl ?_
              rw [← hQ]; exact ⟨_, rfl, by omega, by omega, hIm29, hFm29, by omega, by rw [fm29_70]; first | exact (if_neg (by omega)).symm | exact (if_pos (by omega)).symm⟩
            · intro h32; omega

abbrev W_116 : List (Nat × Nat) := [(1, 4), (1, 5)]
set_option maxHeartbeats 8000000 in
theorem th_116 {E : zE} {d : Nat} {m0 : zM} {a0 : Int} {a1 : Int} {g0 : Int} {g1 : Int} (hd : 2 ≤ d) (hI0 : zInv m0) (hg0 : m0 1 4 = g0) (hg1 : m0 1 5 = g1) (ha0 : (-2147483648) ≤ a0 ∧ a0 ≤ 2147483647) (ha1 : (-2147483648) ≤ a1 ∧ a1 ≤ 2147483647) : zC E d 116 [(2, 0), (0, a0), (0, a1)] m0 (fun v m' => ∃ r : Int, v = (0, r) ∧ (-2) ≤ r ∧ r ≤ 1 ∧ zInv m' ∧ zFr W_116 m0 m' ∧ ((r = 1 ∧ 1 ≤ a0 ∧ a0 ≤ 1000 ∧ 0 ≤ a1 ∧ a1 ≤ 500) ∨ (r = -2 ∧ (a0 < 1 ∨ 1000 < a0 ∨ a1 < 0 ∨ 500 < a1))) ∧ ((r = 1 ∧ m' 1 4 = a0 ∧ m' 1 5 = a1) ∨ (r = -2 ∧ m' 1 4 = g0 ∧ m' 1 5 = g1))) := by
  have hF0 : zFr W_116 m0 m0 := zFr.rfl
  have bg0 := ib_1_4 hI0
  rw [hg0] at bg0
  have bg1 := ib_1_5 hI0
  rw [hg1] at bg1
  generalize hQ : (fun (v : zV) (m' : zM) => ∃ r : Int, v = (0, r) ∧ (-2) ≤ r ∧ r ≤ 1 ∧ zInv m' ∧ zFr W_116 m0 m' ∧ ((r = 1 ∧ 1 ≤ a0 ∧ a0 ≤ 1000 ∧ 0 ≤ a1 ∧ a1 ≤ 500) ∨ (r = -2 ∧ (a0 < 1 ∨ 1000 < a0 ∨ a1 < 0 ∨ 500 < a1))) ∧ ((r = 1 ∧ m' 1 4 = a0 ∧ m' 1 5 = a1) ∨ (r = -2 ∧ m' 1 4 = g0 ∧ m' 1 5 = g1))) = Q
  show zW E d 116 0 [(2, 0), (0, a0), (0, a1)] [] m0 Q
  refine zw_3 zr_116_0 rfl ?_
  refine zw_push zr_116_1 ?_
  refine zw_push zr_116_2 ?_
  refine zw_C zr_116_5 (Or.inr rfl) zm_100 rfl rfl ⟨Nat.le_of_ble_eq_true rfl, Nat.le_of_ble_eq_true rfl, Nat.le_of_ble_eq_true rfl, rfl, by decide⟩ (by omega) (P := (fun v m' => zW E (d) 116 8 [(2, 0), (0, a0), (0, a1)] (if v.1 = 9 then [] else v :: []) m' Q)) ?_ (fun _ _ h => h)
  generalize hQ1 : (fun v m' => zW E (d) 116 8 [(2, 0), (0, a0), (0, a1)] (if v.1 = 9 then [] else v :: []) m' Q) = Q1
  show zW E (d - 1) 100 0 [(0, a0), (0, 1), (0, 1000)] [] m0 Q1
  refine zw_3 zr_100_0 rfl ?_
  refine zw_3 zr_100_1 rfl ?_
  refine zw_41_0 zr_100_2 ?_ ?_
  · intro h1
    refine zw_push zr_100_14 ?_
    refine zw_R zr_100_15 (by decide) zm_100 (v := (0, 0)) (zRetB (by omega)) ?_
    rw [← hQ1]
    show zW E (d) 116 8 [(2, 0), (0, a0), (0, a1)] [(0, 0)] m0 Q
    refine zw_40_1 zr_116_8 ?_ ?_
    · intro h2
      refine zw_push zr_116_22 ?_
      refine zw_R zr_116_24 (by decide) zm_116 (v := (0, (-2))) rfl ?_
      rw [← hQ]; exact ⟨_, rfl, by omega, by omega, hI0, hF0, by omega, by omega⟩
    · intro h5; omega
  · intro h6
    refine zw_3 zr_100_5 rfl ?_
    refine zw_3 zr_100_6 rfl ?_
    refine zw_41_2 zr_100_7 ?_ ?_
    · intro h7
      refine zw_push zr_100_14 ?_
      refine zw_R zr_100_15 (by decide) zm_100 (v := (0, 0)) (zRetB (by omega)) ?_
      rw [← hQ1]
      show zW E (d) 116 8 [(2, 0), (0, a0), (0, a1)] [(0, 0)] m0 Q
      refine zw_40_1 zr_116_8 ?_ ?_
      · intro h8
        refine zw_push zr_116_22 ?_
        refine zw_R zr_116_24 (by decide) zm_116 (v := (0, (-2))) rfl ?_
        rw [← hQ]; exact ⟨_, rfl, by omega, by omega, hI0, hF0, by omega, by omega⟩
      · intro h11; omega
    · intro h12
      refine zw_push zr_100_10 ?_
      refine zw_42 zr_100_11 ?_
      refine zw_R zr_100_15 (by decide) zm_100 (v := (0, 1)) (zRetB (by omega)) ?_
      rw [← hQ1]
      show zW E (d) 116 8 [(2, 0), (0, a0), (0, a1)] [(0, 1)] m0 Q
      refine zw_40_1 zr_116_8 ?_ ?_
      · intro h13; omega
      · intro h14
        refine zw_3 zr_116_11 rfl ?_
        refine zw_push zr_116_12 ?_
        refine zw_push zr_116_13 ?_
        refine zw_C zr_116_16 (Or.inr rfl) zm_100 rfl rfl ⟨Nat.le_of_ble_eq_true rfl, Nat.le_of_ble_eq_true rfl, Nat.le_of_ble_eq_true rfl, rfl, by decide⟩ (by omega) (P := (fun v m' => zW E (d) 116 19 [(2, 0), (0, a0), (0, a1)] (if v.1 = 9 then [] else v :: []) m' Q)) ?_ (fun _ _ h => h)
        generalize hQ1 : (fun v m' => zW E (d) 116 19 [(2, 0), (0, a0), (0, a1)] (if v.1 = 9 then [] else v :: []) m' Q) = Q1
        show zW E (d - 1) 100 0 [(0, a1), (0, 0), (0, 500)] [] m0 Q1
        refine zw_3 zr_100_0 rfl ?_
        refine zw_3 zr_100_1 rfl ?_
        refine zw_41_0 zr_100_2 ?_ ?_
        · intro h15
          refine zw_push zr_100_14 ?_
          refine zw_R zr_100_15 (by decide) zm_100 (v := (0, 0)) (zRetB (by omega)) ?_
          rw [← hQ1]
          show zW E (d) 116 19 [(2, 0), (0, a0), (0, a1)] [(0, 0)] m0 Q
          refine zw_40_4 zr_116_19 ?_ ?_
          · intro h16; omega
          · intro h17
            refine zw_push zr_116_22 ?_
            refine zw_R zr_116_24 (by decide) zm_116 (v := (0, (-2))) rfl ?_
            rw [← hQ]; exact ⟨_, rfl, by omega, by omega, hI0, hF0, by omega, by omega⟩
        · intro h20
          refine zw_3 zr_100_5 rfl ?_
          refine zw_3 zr_100_6 rfl ?_
          refine zw_41_2 zr_100_7 ?_ ?_
          · intro h21
            refine zw_push zr_100_14 ?_
            refine zw_R zr_100_15 (by decide) zm_100 (v := (0, 0)) (zRetB (by omega)) ?_
            rw [← hQ1]
            show zW E (d) 116 19 [(2, 0), (0, a0), (0, a1)] [(0, 0)] m0 Q
            refine zw_40_4 zr_116_19 ?_ ?_
            · intro h22; omega
            · intro h23
              refine zw_push zr_116_22 ?_
              refine zw_R zr_116_24 (by decide) zm_116 (v := (0, (-2))) rfl ?_
              rw [← hQ]; exact ⟨_, rfl, by omega, by omega, hI0, hF0, by omega, by omega⟩
          · intro h26
            refine zw_push zr_100_10 ?_
            refine zw_42 zr_100_11 ?_
            refine zw_R zr_100_15 (by decide) zm_100 (v := (0, 1)) (zRetB (by omega)) ?_
            rw [← hQ1]
            show zW E (d) 116 19 [(2, 0), (0, a0), (0, a1)] [(0, 1)] m0 Q
            refine zw_40_4 zr_116_19 ?_ ?_
            · intro h27
              refine zw_7 zr_116_25 rfl ?_
              refine zw_46r (s := 1) zr_116_26 rfl rfl rfl rfl ?_
              refine zw_3 zr_116_29 rfl ?_
              refine zw_47 (c := 1) zr_116_30 rfl ⟨rfl, by decide, rfl⟩ ?_
              intro m28 em28
              have hIm28 : zInv m28 := by rw [em28]; exact hI0.bd (r := 1) (k := 4) (lo := 1) (hi := 1000) rfl (by omega) (by decide) (by decide) (by decide)
              have hFm28 : zFr W_116 m0 m28 := by rw [em28]; exact hF0.up rfl
              have km28_1_5 : m28 1 5 = g1 := by rw [em28, zUp_ne (by omega)]; exact hg1
              have km28_1_4 : m28 1 4 = a0 := by rw [em28]; exact zUp_eq _ _ _ _
              clear em28
              refine zw_7 zr_116_33 rfl ?_
              refine zw_46r (s := 1) zr_116_34 rfl rfl rfl rfl ?_
              refine zw_3 zr_116_37 rfl ?_
              refine zw_47 (c := 1) zr_116_38 rfl ⟨rfl, by decide, rfl⟩ ?_
              intro m29 em29
              have hIm29 : zInv m29 := by rw [em29]; exact hIm28.bd (r := 1) (k := 5) (lo := 0) (hi := 500) rfl (by omega) (by decide) (by decide) (by decide)
              have hFm29 : zFr W_116 m0 m29 := by rw [em29]; exact hFm28.up rfl
              have km29_1_4 : m29 1 4 = a0 := by rw [em29, zUp_ne (by omega)]; exact km28_1_4
              have km29_1_5 : m29 1 5 = a1 := by rw [em29]; exact zUp_eq _ _ _ _
              clear em29
              refine zw_push zr_116_41 ?_
              refine zw_R zr_116_42 (by decide) zm_116 (v := (0, 1)) rfl ?_
              rw [← hQ]; exact ⟨_, rfl, by omega, by omega, hIm29, hFm29, by omega, by omega⟩
            · intro h32; omega
