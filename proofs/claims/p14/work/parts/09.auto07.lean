abbrev W_166 : List (Nat × Nat) := [(69, 5), (69, 6), (69, 7), (69, 9), (69, 11), (69, 13), (69, 17), (69, 18), (73, 1000), (74, 1000), (75, 1000), (76, 1000), (77, 1000), (78, 1000)]
set_option maxHeartbeats 8000000 in
theorem th_166 {E : zE} {d : Nat} {m0 : zM} {a0 : Int} {a1 : Int} {gN : Int} {F70 : Nat → Int} {F76 : Nat → Int} {F77 : Nat → Int} {F78 : Nat → Int} (hd : 5 ≤ d) (hI0 : zInv m0) (hG70 : m0 70 = F70) (hG76 : m0 76 = F76) (hG77 : m0 77 = F77) (hG78 : m0 78 = F78) (ha0 : 0 ≤ a0 ∧ a0 ≤ 3) (ha1 : 0 ≤ a1 ∧ a1 ≤ 59) (hp0 : zPb (F76, F77, F78) gN) (hp1 : 0 ≤ gN ∧ gN ≤ 60) : zC E d 166 [(2, 69), (0, a0), (0, a1)] m0 (fun v m' => v = (9, 0) ∧ zInv m' ∧ zFr W_166 m0 m' ∧ (zPz (cht F70 a0) (fun i => F70 (91 + 6 * i)) (fun i => F70 (92 + 6 * i)) (fun i => F70 (93 + 6 * i)) (fun i => F70 (90 + 6 * i)) (fun i => F70 (94 + 6 * i)) a1.toNat (F76, F77, F78) (m' 76, m' 77, m' 78) (m' 69 17) (m' 69 18)) ∧ (zPb (m' 76, m' 77, m' 78) (gN + 1)) ∧ ((-500 ≤ m' 69 17 ∧ m' 69 17 ≤ 500) ∧ (-500 ≤ m' 69 18 ∧ m' 69 18 ≤ 500))) := by
  have hF0 : zFr W_166 m0 m0 := zFr.rfl
  generalize hQ : (fun (v : zV) (m' : zM) => v = (9, 0) ∧ zInv m' ∧ zFr W_166 m0 m' ∧ (zPz (cht F70 a0) (fun i => F70 (91 + 6 * i)) (fun i => F70 (92 + 6 * i)) (fun i => F70 (93 + 6 * i)) (fun i => F70 (90 + 6 * i)) (fun i => F70 (94 + 6 * i)) a1.toNat (F76, F77, F78) (m' 76, m' 77, m' 78) (m' 69 17) (m' 69 18)) ∧ (zPb (m' 76, m' 77, m' 78) (gN + 1)) ∧ ((-500 ≤ m' 69 17 ∧ m' 69 17 ≤ 500) ∧ (-500 ≤ m' 69 18 ∧ m' 69 18 ≤ 500))) = Q
  show zW E d 166 0 [(2, 69), (0, a0), (0, a1), (9, 0), (9, 0)] [] m0 Q
  refine zw_7 zr_166_0 rfl ?_
  refine zw_3 zr_166_1 rfl ?_
  refine zw_47 (c := 69) zr_166_2 rfl ⟨rfl, by decide, rfl⟩ ?_
  intro m1 em1
  have hIm1 : zInv m1 := by rw [em1]; exact hI0.bd (r := 69) (k := 5) (lo := 0) (hi := 3) rfl (by omega) (by decide) (by decide) (by decide)
  have hFm1 : zFr W_166 m0 m1 := by rw [em1]; exact hF0.up rfl
  have km1_69_5 : m1 69 5 = a0 := by rw [em1]; exact zUp_eq _ _ _ _
  have fm1_70 : m1 70 = F70 := by rw [em1, zUp_fn (by decide)]; exact hG70
  have fm1_76 : m1 76 = F76 := by rw [em1, zUp_fn (by decide)]; exact hG76
  have fm1_77 : m1 77 = F77 := by rw [em1, zUp_fn (by decide)]; exact hG77
  have fm1_78 : m1 78 = F78 := by rw [em1, zUp_fn (by decide)]; exact hG78
  clear em1
  refine zw_7 zr_166_5 rfl ?_
  refine zw_3 zr_166_6 rfl ?_
  refine zw_push zr_166_7 ?_
  refine zw_C zr_166_8 (Or.inl rfl) zm_144 rfl rfl ⟨Nat.le_of_ble_eq_true rfl, Nat.le_of_ble_eq_true rfl, Nat.le_of_ble_eq_true rfl, rfl, by decide⟩ (by omega) (P := (fun v m' => zW E (d) 166 11 [(2, 69), (0, a0), (0, a1), (9, 0), (9, 0)] (if v.1 = 9 then [] else v :: []) m' Q)) ?_ (fun _ _ h => h)
  generalize hQ1 : (fun v m' => zW E (d) 166 11 [(2, 69), (0, a0), (0, a1), (9, 0), (9, 0)] (if v.1 = 9 then [] else v :: []) m' Q) = Q1
  show zW E (d - 1) 144 0 [(2, 69), (0, a1), (0, 1)] [] m1 Q1
  refine zw_7 zr_144_0 rfl ?_
  refine zw_46r (s := 70) zr_144_1 rfl rfl rfl rfl ?_
  refine zw_push zr_144_4 ?_
  refine zw_push zr_144_6 ?_
  refine zw_3 zr_144_8 rfl ?_
  refine zw_18 zr_144_9 (by omega) ?_
  refine zw_16 zr_144_10 (by omega) ?_
  refine zw_3 zr_144_11 rfl ?_
  refine zw_16 zr_144_12 (by omega) ?_
  refine zw_48 (c := 70) (len := 826) zr_144_13 rfl rfl (by omega) (by omega) ?_
  intro x2 ex2
  have bx2 := ib_70_m1 hIm1 (k := (((90 + (6 * a1)) + 1)).toNat) (by omega)
  rw [← ex2] at bx2
  have qx2 : x2 = F70 (((90 + (6 * a1)) + 1)).toNat := by rw [← fm1_70]; exact ex2
  clear ex2
  refine zw_R zr_144_14 (by decide) zm_144 (v := (0, x2)) rfl ?_
  rw [← hQ1]
  show zW E (d) 166 11 [(2, 69), (0, a0), (0, a1), (9, 0), (9, 0)] [(0, x2)] m1 Q
  have hA : x2 = F70 (91 + 6 * a1.toNat) := qx2.trans (congrArg F70 (by omega))
  refine zw_9 (L' := [(2, 69), (0, a0), (0, a1), (0, x2), (9, 0)]) zr_166_11 (Nat.le_of_ble_eq_true rfl) rfl ?_
  refine zw_7 zr_166_12 rfl ?_
  refine zw_3 zr_166_13 rfl ?_
  refine zw_push zr_166_14 ?_
  refine zw_C zr_166_15 (Or.inl rfl) zm_144 rfl rfl ⟨Nat.le_of_ble_eq_true rfl, Nat.le_of_ble_eq_true rfl, Nat.le_of_ble_eq_true rfl, rfl, by decide⟩ (by omega) (P := (fun v m' => zW E (d) 166 18 [(2, 69), (0, a0), (0, a1), (0, x2), (9, 0)] (if v.1 = 9 then [] else v :: []) m' Q)) ?_ (fun _ _ h => h)
  generalize hQ1 : (fun v m' => zW E (d) 166 18 [(2, 69), (0, a0), (0, a1), (0, x2), (9, 0)] (if v.1 = 9 then [] else v :: []) m' Q) = Q1
  show zW E (d - 1) 144 0 [(2, 69), (0, a1), (0, 2)] [] m1 Q1
  refine zw_7 zr_144_0 rfl ?_
  refine zw_46r (s := 70) zr_144_1 rfl rfl rfl rfl ?_
  refine zw_push zr_144_4 ?_
  refine zw_push zr_144_6 ?_
  refine zw_3 zr_144_8 rfl ?_
  refine zw_18 zr_144_9 (by omega) ?_
  refine zw_16 zr_144_10 (by omega) ?_
  refine zw_3 zr_144_11 rfl ?_
  refine zw_16 zr_144_12 (by omega) ?_
  refine zw_48 (c := 70) (len := 826) zr_144_13 rfl rfl (by omega) (by omega) ?_
  intro x4 ex4
  have bx4 := ib_70_m2 hIm1 (k := (((90 + (6 * a1)) + 2)).toNat) (by omega)
  rw [← ex4] at bx4
  have qx4 : x4 = F70 (((90 + (6 * a1)) + 2)).toNat := by rw [← fm1_70]; exact ex4
  clear ex4
  refine zw_R zr_144_14 (by decide) zm_144 (v := (0, x4)) rfl ?_
  rw [← hQ1]
  show zW E (d) 166 18 [(2, 69), (0, a0), (0, a1), (0, x2), (9, 0)] [(0, x4)] m1 Q
  have hB : x4 = F70 (92 + 6 * a1.toNat) := qx4.trans (congrArg F70 (by omega))
  refine zw_10 (L' := [(2, 69), (0, a0), (0, a1), (0, x2), (0, x4)]) zr_166_18 (Nat.le_of_ble_eq_true rfl) rfl ?_
  refine zw_7 zr_166_20 rfl ?_
  refine zw_7 zr_166_21 rfl ?_
  refine zw_3 zr_166_22 rfl ?_
  refine zw_3 zr_166_23 rfl ?_
  refine zw_4 zr_166_24 rfl ?_
  refine zw_7 zr_166_26 rfl ?_
  refine zw_3 zr_166_27 rfl ?_
  refine zw_push zr_166_28 ?_
  refine zw_C zr_166_29 (Or.inl rfl) zm_144 rfl rfl ⟨Nat.le_of_ble_eq_true rfl, Nat.le_of_ble_eq_true rfl, Nat.le_of_ble_eq_true rfl, rfl, by decide⟩ (by omega) (P := (fun v m' => zW E (d) 166 32 [(2, 69), (0, a0), (0, a1), (0, x2), (0, x4)] (if v.1 = 9 then [(0, x4), (0, x2), (0, a1), (2, 69), (2, 69)] else v :: [(0, x4), (0, x2), (0, a1), (2, 69), (2, 69)]) m' Q)) ?_ (fun _ _ h => h)
  generalize hQ1 : (fun v m' => zW E (d) 166 32 [(2, 69), (0, a0), (0, a1), (0, x2), (0, x4)] (if v.1 = 9 then [(0, x4), (0, x2), (0, a1), (2, 69), (2, 69)] else v :: [(0, x4), (0, x2), (0, a1), (2, 69), (2, 69)]) m' Q) = Q1
  show zW E (d - 1) 144 0 [(2, 69), (0, a1), (0, 3)] [] m1 Q1
  refine zw_7 zr_144_0 rfl ?_
  refine zw_46r (s := 70) zr_144_1 rfl rfl rfl rfl ?_
  refine zw_push zr_144_4 ?_
  refine zw_push zr_144_6 ?_
  refine zw_3 zr_144_8 rfl ?_
  refine zw_18 zr_144_9 (by omega) ?_
  refine zw_16 zr_144_10 (by omega) ?_
  refine zw_3 zr_144_11 rfl ?_
  refine zw_16 zr_144_12 (by omega) ?_
  refine zw_48 (c := 70) (len := 826) zr_144_13 rfl rfl (by omega) (by omega) ?_
  intro x6 ex6
  have bx6 := ib_70_m3 hIm1 (k := (((90 + (6 * a1)) + 3)).toNat) (by omega)
  rw [← ex6] at bx6
  have qx6 : x6 = F70 (((90 + (6 * a1)) + 3)).toNat := by rw [← fm1_70]; exact ex6
  clear ex6
  refine zw_R zr_144_14 (by decide) zm_144 (v := (0, x6)) rfl ?_
  rw [← hQ1]
  show zW E (d) 166 32 [(2, 69), (0, a0), (0, a1), (0, x2), (0, x4)] [(0, x6), (0, x4), (0, x2), (0, a1), (2, 69), (2, 69)] m1 Q
  have hE : x6 = F70 (93 + 6 * a1.toNat) := qx6.trans (congrArg F70 (by omega))
  refine zw_C zr_166_32 (Or.inl rfl) zm_165 rfl rfl ⟨Nat.le_of_ble_eq_true rfl, Nat.le_of_ble_eq_true rfl, Nat.le_of_ble_eq_true rfl, rfl, by decide⟩ (by omega) (th_165 (d := d - 1) (by omega) hIm1 (a0 := a1) (a1 := x2) (a2 := x4) (a3 := x6) (g0 := a0)  (F70 := F70) (F75 := m1 75) (F76 := F76) (F77 := F77) (F78 := F78) km1_69_5 fm1_70 rfl fm1_76 fm1_77 fm1_78 (by omega) (by omega) (by omega) (by omega) ) ?_
  rintro _ m8 ⟨r9, rfl, hr9a, hr9b, hIm8, gm8, po0_r9, po1_r9⟩
  have hFm8 : zFr W_166 m0 m8 := hFm1.trans gm8 rfl
  have km8_69_5 : m8 69 5 = a0 := (gm8 69 5 rfl).trans km1_69_5
  have fm8_70 : m8 70 = F70 := (funext fun k => gm8 70 k rfl).trans fm1_70
  have fm8_76 : m8 76 = F76 := (funext fun k => gm8 76 k rfl).trans fm1_76
  have fm8_77 : m8 77 = F77 := (funext fun k => gm8 77 k rfl).trans fm1_77
  have fm8_78 : m8 78 = F78 := (funext fun k => gm8 78 k rfl).trans fm1_78
  show zW E (d) 166 35 [(2, 69), (0, a0), (0, a1), (0, x2), (0, x4)] [(0, r9), (2, 69)] m8 Q
  have hc1 := po0_r9
  have hd1 := po1_r9
  refine zw_47 (c := 69) zr_166_35 rfl ⟨rfl, by decide, rfl⟩ ?_
  intro m10 em10
  have hIm10 : zInv m10 := by rw [em10]; exact hIm8.any (by omega) rfl (by decide) (by decide)
  have hFm10 : zFr W_166 m0 m10 := by rw [em10]; exact hFm8.up rfl
  have km10_69_5 : m10 69 5 = a0 := by rw [em10, zUp_ne (by omega)]; exact km8_69_5
  have km10_69_17 : m10 69 17 = r9 := by rw [em10]; exact zUp_eq _ _ _ _
  have fm10_70 : m10 70 = F70 := by rw [em10, zUp_fn (by decide)]; exact fm8_70
  have fm10_76 : m10 76 = F76 := by rw [em10, zUp_fn (by decide)]; exact fm8_76
  have fm10_77 : m10 77 = F77 := by rw [em10, zUp_fn (by decide)]; exact fm8_77
  have fm10_78 : m10 78 = F78 := by rw [em10, zUp_fn (by decide)]; exact fm8_78
  clear em10
  refine zw_7 zr_166_38 rfl ?_
  refine zw_7 zr_166_39 rfl ?_
  refine zw_3 zr_166_40 rfl ?_
  refine zw_4 zr_166_41 rfl ?_
  refine zw_3 zr_166_43 rfl ?_
  refine zw_push zr_166_44 ?_
  refine zw_7 zr_166_45 rfl ?_
  refine zw_3 zr_166_46 rfl ?_
  refine zw_push zr_166_47 ?_
  refine zw_C zr_166_48 (Or.inl rfl) zm_144 rfl rfl ⟨Nat.le_of_ble_eq_true rfl, Nat.le_of_ble_eq_true rfl, Nat.le_of_ble_eq_true rfl, rfl, by decide⟩ (by omega) (P := (fun v m' => zW E (d) 166 51 [(2, 69), (0, a0), (0, a1), (0, x2), (0, x4)] (if v.1 = 9 then [(0, 2), (0, x2), (0, x4), (0, a1), (2, 69), (2, 69)] else v :: [(0, 2), (0, x2), (0, x4), (0, a1), (2, 69), (2, 69)]) m' Q)) ?_ (fun _ _ h => h)
  generalize hQ1 : (fun v m' => zW E (d) 166 51 [(2, 69), (0, a0), (0, a1), (0, x2), (0, x4)] (if v.1 = 9 then [(0, 2), (0, x2), (0, x4), (0, a1), (2, 69), (2, 69)] else v :: [(0, 2), (0, x2), (0, x4), (0, a1), (2, 69), (2, 69)]) m' Q) = Q1
  show zW E (d - 1) 144 0 [(2, 69), (0, a1), (0, 3)] [] m10 Q1
  refine zw_7 zr_144_0 rfl ?_
  refine zw_46r (s := 70) zr_144_1 rfl rfl rfl rfl ?_
  refine zw_push zr_144_4 ?_
  refine zw_push zr_144_6 ?_
  refine zw_3 zr_144_8 rfl ?_
  refine zw_18 zr_144_9 (by omega) ?_
  refine zw_16 zr_144_10 (by omega) ?_
  refine zw_3 zr_144_11 rfl ?_
  refine zw_16 zr_144_12 (by omega) ?_
  refine zw_48 (c := 70) (len := 826) zr_144_13 rfl rfl (by omega) (by omega) ?_
  intro x11 ex11
  have bx11 := ib_70_m3 hIm10 (k := (((90 + (6 * a1)) + 3)).toNat) (by omega)
  rw [← ex11] at bx11
  have qx11 : x11 = F70 (((90 + (6 * a1)) + 3)).toNat := by rw [← fm10_70]; exact ex11
  clear ex11
  refine zw_R zr_144_14 (by decide) zm_144 (v := (0, x11)) rfl ?_
  rw [← hQ1]
  show zW E (d) 166 51 [(2, 69), (0, a0), (0, a1), (0, x2), (0, x4)] [(0, x11), (0, 2), (0, x2), (0, x4), (0, a1), (2, 69), (2, 69)] m10 Q
  have he : x11 = x6 := (qx11.trans (congrArg F70 (by omega))).trans hE.symm
  refine zw_17 zr_166_51 (by omega) ?_
  refine zw_C zr_166_52 (Or.inl rfl) zm_165 rfl rfl ⟨Nat.le_of_ble_eq_true rfl, Nat.le_of_ble_eq_true rfl, Nat.le_of_ble_eq_true rfl, rfl, by decide⟩ (by omega) (th_165 (d := d - 1) (by omega) hIm10 (a0 := a1) (a1 := x4) (a2 := x2) (a3 := (2 - x11)) (g0 := a0)  (F70 := F70) (F75 := m10 75) (F76 := F76) (F77 := F77) (F78 := F78) km10_69_5 fm10_70 rfl fm10_76 fm10_77 fm10_78 (by omega) (by omega) (by omega) (by omega) ) ?_
  rintro _ m13 ⟨r14, rfl, hr14a, hr14b, hIm13, gm13, po0_r14, po1_r14⟩
  have hFm13 : zFr W_166 m0 m13 := hFm10.trans gm13 rfl
  have km13_69_5 : m13 69 5 = a0 := (gm13 69 5 rfl).trans km10_69_5
  have km13_69_17 : m13 69 17 = r9 := (gm13 69 17 rfl).trans km10_69_17
  have fm13_70 : m13 70 = F70 := (funext fun k => gm13 70 k rfl).trans fm10_70
  have fm13_76 : m13 76 = F76 := (funext fun k => gm13 76 k rfl).trans fm10_76
  have fm13_77 : m13 77 = F77 := (funext fun k => gm13 77 k rfl).trans fm10_77
  have fm13_78 : m13 78 = F78 := (funext fun k => gm13 78 k rfl).trans fm10_78
  show zW E (d) 166 55 [(2, 69), (0, a0), (0, a1), (0, x2), (0, x4)] [(0, r14), (2, 69)] m13 Q
  have hc2 := po0_r14
  have hd2 := po1_r14
  rw [he] at hc2
  refine zw_47 (c := 69) zr_166_55 rfl ⟨rfl, by decide, rfl⟩ ?_
  intro m15 em15
  have hIm15 : zInv m15 := by rw [em15]; exact hIm13.any (by omega) rfl (by decide) (by decide)
  have hFm15 : zFr W_166 m0 m15 := by rw [em15]; exact hFm13.up rfl
  have km15_69_5 : m15 69 5 = a0 := by rw [em15, zUp_ne (by omega)]; exact km13_69_5
  have km15_69_17 : m15 69 17 = r9 := by rw [em15, zUp_ne (by omega)]; exact km13_69_17
  have km15_69_18 : m15 69 18 = r14 := by rw [em15]; exact zUp_eq _ _ _ _
  have fm15_70 : m15 70 = F70 := by rw [em15, zUp_fn (by decide)]; exact fm13_70
  have fm15_76 : m15 76 = F76 := by rw [em15, zUp_fn (by decide)]; exact fm13_76
  have fm15_77 : m15 77 = F77 := by rw [em15, zUp_fn (by decide)]; exact fm13_77
  have fm15_78 : m15 78 = F78 := by rw [em15, zUp_fn (by decide)]; exact fm13_78
  clear em15
  refine zw_7 zr_166_58 rfl ?_
  refine zw_46r (s := 76) zr_166_59 rfl rfl rfl rfl ?_
  refine zw_3 zr_166_62 rfl ?_
  refine zw_45 zr_166_63 ⟨rfl, rfl⟩ ?_
  refine zw_48 (c := 76) (len := 10) zr_166_64 rfl rfl (by omega) (by omega) ?_
  intro x16 ex16
  have bx16 := hIm15.ra (c := 76) (len := 10) (k := (x2).toNat) rfl (by omega)
  rw [← ex16] at bx16
  have qx16 : x16 = F76 (x2).toNat := by rw [← fm15_76]; exact ex16
  clear ex16
  have hx1 := qx16
  have hb1 := (zPb_at hp0 (p := x2) (by omega)).1
  rw [← hx1] at hb1
  refine zw_7 zr_166_65 rfl ?_
  refine zw_46i zr_166_66 km15_69_17 rfl rfl rfl ?_
  refine zw_16 zr_166_69 (by omega) ?_
  refine zw_49 (c := 76) (len := 10) zr_166_70 rfl rfl (by omega) (by omega) ?_
  intro m20 em20
  have hIm20 : zInv m20 := by rw [em20]; exact hIm15.any (by omega) rfl (by decide) (by decide)
  have hFm20 : zFr W_166 m0 m20 := by rw [em20]; exact hFm15.any rfl
  have km20_69_5 : m20 69 5 = a0 := by rw [em20, zUp_ne (by omega)]; exact km15_69_5
  have km20_69_17 : m20 69 17 = r9 := by rw [em20, zUp_ne (by omega)]; exact km15_69_17
  have km20_69_18 : m20 69 18 = r14 := by rw [em20, zUp_ne (by omega)]; exact km15_69_18
  have fm20_70 : m20 70 = F70 := by rw [em20, zUp_fn (by decide)]; exact fm15_70
  have fm20_76 : m20 76 = zPt F76 ((x2).toNat) ((x16 + r9)) := by rw [em20]; exact (zUp_ff (m := m15)).trans (congrArg (fun q => zPt q ((x2).toNat) ((x16 + r9))) fm15_76)
  have fm20_77 : m20 77 = F77 := by rw [em20, zUp_fn (by decide)]; exact fm15_77
  have fm20_78 : m20 78 = F78 := by rw [em20, zUp_fn (by decide)]; exact fm15_78
  clear em20
  refine zw_7 zr_166_71 rfl ?_
  refine zw_46r (s := 76) zr_166_72 rfl rfl rfl rfl ?_
  refine zw_4 zr_166_75 rfl ?_
  refine zw_45 zr_166_77 ⟨rfl, rfl⟩ ?_
  refine zw_48 (c := 76) (len := 10) zr_166_78 rfl rfl (by omega) (by omega) ?_
  intro x21 ex21
  have bx21 := hIm20.ra (c := 76) (len := 10) (k := (x4).toNat) rfl (by omega)
  rw [← ex21] at bx21
  have qx21 : x21 = (zPt F76 ((x2).toNat) ((x16 + r9))) (x4).toNat := by rw [← fm20_76]; exact ex21
  clear ex21
  have hx2 := qx21
  have hb2 := (zPb_at hp0 (p := x4) (by omega)).1
  have hw2 := zPt_w F76 (x2).toNat (x4).toNat (x16 + r9)
  refine zw_7 zr_166_79 rfl ?_
  refine zw_46i zr_166_80 km20_69_18 rfl rfl rfl ?_
  refine zw_16 zr_166_83 (by omega) ?_
  refine zw_49 (c := 76) (len := 10) zr_166_84 rfl rfl (by omega) (by omega) ?_
  intro m25 em25
  have hIm25 : zInv m25 := by rw [em25]; exact hIm20.any (by omega) rfl (by decide) (by decide)
  have hFm25 : zFr W_166 m0 m25 := by rw [em25]; exact hFm20.any rfl
  have km25_69_5 : m25 69 5 = a0 := by rw [em25, zUp_ne (by omega)]; exact km20_69_5
  have km25_69_17 : m25 69 17 = r9 := by rw [em25, zUp_ne (by omega)]; exact km20_69_17
  have km25_69_18 : m25 69 18 = r14 := by rw [em25, zUp_ne (by omega)]; exact km20_69_18
  have fm25_70 : m25 70 = F70 := by rw [em25, zUp_fn (by decide)]; exact fm20_70
  have fm25_76 : m25 76 = zPt (zPt F76 ((x2).toNat) ((x16 + r9))) ((x4).toNat) ((x21 + r14)) := by rw [em25]; exact (zUp_ff (m := m20)).trans (congrArg (fun q => zPt q ((x4).toNat) ((x21 + r14))) fm20_76)
  have fm25_77 : m25 77 = F77 := by rw [em25, zUp_fn (by decide)]; exact fm20_77
  have fm25_78 : m25 78 = F78 := by rw [em25, zUp_fn (by decide)]; exact fm20_78
  clear em25
  refine zw_7 zr_166_85 rfl ?_
  refine zw_46r (s := 77) zr_166_86 rfl rfl rfl rfl ?_
  refine zw_3 zr_166_89 rfl ?_
  refine zw_45 zr_166_90 ⟨rfl, rfl⟩ ?_
  refine zw_48 (c := 77) (len := 10) zr_166_91 rfl rfl (by omega) (by omega) ?_
  intro x26 ex26
  have bx26 := hIm25.ra (c := 77) (len := 10) (k := (x2).toNat) rfl (by omega)
  rw [← ex26] at bx26
  have qx26 : x26 = F77 (x2).toNat := by rw [← fm25_77]; exact ex26
  clear ex26
  have hg1 := qx26
  have hb3 := (zPb_at hp0 (p := x2) (by omega)).2
  rw [← hg1] at hb3
  refine zw_push zr_166_92 ?_
  refine zw_16 zr_166_93 (by omega) ?_
  refine zw_49 (c := 77) (len := 10) zr_166_94 rfl rfl (by omega) (by omega) ?_
  intro m30 em30
  have hIm30 : zInv m30 := by rw [em30]; exact hIm25.any (by omega) rfl (by decide) (by decide)
  have hFm30 : zFr W_166 m0 m30 := by rw [em30]; exact hFm25.any rfl
  have km30_69_5 : m30 69 5 = a0 := by rw [em30, zUp_ne (by omega)]; exact km25_69_5
  have km30_69_17 : m30 69 17 = r9 := by rw [em30, zUp_ne (by omega)]; exact km25_69_17
  have km30_69_18 : m30 69 18 = r14 := by rw [em30, zUp_ne (by omega)]; exact km25_69_18
  have fm30_70 : m30 70 = F70 := by rw [em30, zUp_fn (by decide)]; exact fm25_70
  have fm30_76 : m30 76 = zPt (zPt F76 ((x2).toNat) ((x16 + r9))) ((x4).toNat) ((x21 + r14)) := by rw [em30, zUp_fn (by decide)]; exact fm25_76
  have fm30_77 : m30 77 = zPt F77 ((x2).toNat) ((x26 + 1)) := by rw [em30]; exact (zUp_ff (m := m25)).trans (congrArg (fun q => zPt q ((x2).toNat) ((x26 + 1))) fm25_77)
  have fm30_78 : m30 78 = F78 := by rw [em30, zUp_fn (by decide)]; exact fm25_78
  clear em30
  refine zw_7 zr_166_95 rfl ?_
  refine zw_46r (s := 77) zr_166_96 rfl rfl rfl rfl ?_
  refine zw_4 zr_166_99 rfl ?_
  refine zw_45 zr_166_101 ⟨rfl, rfl⟩ ?_
  refine zw_48 (c := 77) (len := 10) zr_166_102 rfl rfl (by omega) (by omega) ?_
  intro x31 ex31
  have bx31 := hIm30.ra (c := 77) (len := 10) (k := (x4).toNat) rfl (by omega)
  rw [← ex31] at bx31
  have qx31 : x31 = (zPt F77 ((x2).toNat) ((x26 + 1))) (x4).toNat := by rw [← fm30_77]; exact ex31
  clear ex31
  have hg2 := qx31
  have hb4 := (zPb_at hp0 (p := x4) (by omega)).2
  have hw4 := zPt_w F77 (x2).toNat (x4).toNat (x26 + 1)
  refine zw_push zr_166_103 ?_
  refine zw_16 zr_166_104 (by omega) ?_
  refine zw_49 (c := 77) (len := 10) zr_166_105 rfl rfl (by omega) (by omega) ?_
  intro m35 em35
  have hIm35 : zInv m35 := by rw [em35]; exact hIm30.any (by omega) rfl (by decide) (by decide)
  have hFm35 : zFr W_166 m0 m35 := by rw [em35]; exact hFm30.any rfl
  have km35_69_5 : m35 69 5 = a0 := by rw [em35, zUp_ne (by omega)]; exact km30_69_5
  have km35_69_17 : m35 69 17 = r9 := by rw [em35, zUp_ne (by omega)]; exact km30_69_17
  have km35_69_18 : m35 69 18 = r14 := by rw [em35, zUp_ne (by omega)]; exact km30_69_18
  have fm35_70 : m35 70 = F70 := by rw [em35, zUp_fn (by decide)]; exact fm30_70
  have fm35_76 : m35 76 = zPt (zPt F76 ((x2).toNat) ((x16 + r9))) ((x4).toNat) ((x21 + r14)) := by rw [em35, zUp_fn (by decide)]; exact fm30_76
  have fm35_77 : m35 77 = zPt (zPt F77 ((x2).toNat) ((x26 + 1))) ((x4).toNat) ((x31 + 1)) := by rw [em35]; exact (zUp_ff (m := m30)).trans (congrArg (fun q => zPt q ((x4).toNat) ((x31 + 1))) fm30_77)
  have fm35_78 : m35 78 = F78 := by rw [em35, zUp_fn (by decide)]; exact fm30_78
  clear em35
  refine zw_7 zr_166_106 rfl ?_
  refine zw_46r (s := 78) zr_166_107 rfl rfl rfl rfl ?_
  refine zw_3 zr_166_110 rfl ?_
  refine zw_7 zr_166_111 rfl ?_
  refine zw_3 zr_166_112 rfl ?_
  refine zw_push zr_166_113 ?_
  refine zw_C zr_166_114 (Or.inl rfl) zm_144 rfl rfl ⟨Nat.le_of_ble_eq_true rfl, Nat.le_of_ble_eq_true rfl, Nat.le_of_ble_eq_true rfl, rfl, by decide⟩ (by omega) (P := (fun v m' => zW E (d) 166 117 [(2, 69), (0, a0), (0, a1), (0, x2), (0, x4)] (if v.1 = 9 then [(0, x2), (2, 78)] else v :: [(0, x2), (2, 78)]) m' Q)) ?_ (fun _ _ h => h)
  generalize hQ1 : (fun v m' => zW E (d) 166 117 [(2, 69), (0, a0), (0, a1), (0, x2), (0, x4)] (if v.1 = 9 then [(0, x2), (2, 78)] else v :: [(0, x2), (2, 78)]) m' Q) = Q1
  show zW E (d - 1) 144 0 [(2, 69), (0, a1), (0, 0)] [] m35 Q1
  refine zw_7 zr_144_0 rfl ?_
  refine zw_46r (s := 70) zr_144_1 rfl rfl rfl rfl ?_
  refine zw_push zr_144_4 ?_
  refine zw_push zr_144_6 ?_
  refine zw_3 zr_144_8 rfl ?_
  refine zw_18 zr_144_9 (by omega) ?_
  refine zw_16 zr_144_10 (by omega) ?_
  refine zw_3 zr_144_11 rfl ?_
  refine zw_16 zr_144_12 (by omega) ?_
  refine zw_48 (c := 70) (len := 826) zr_144_13 rfl rfl (by omega) (by omega) ?_
  intro x36 ex36
  have bx36 := ib_70_m0 hIm35 (k := (((90 + (6 * a1)) + 0)).toNat) (by omega)
  rw [← ex36] at bx36
  have qx36 : x36 = F70 (((90 + (6 * a1)) + 0)).toNat := by rw [← fm35_70]; exact ex36
  clear ex36
  refine zw_R zr_144_14 (by decide) zm_144 (v := (0, x36)) rfl ?_
  rw [← hQ1]
  show zW E (d) 166 117 [(2, 69), (0, a0), (0, a1), (0, x2), (0, x4)] [(0, x36), (0, x2), (2, 78)] m35 Q
  have hY : x36 = F70 (90 + 6 * a1.toNat) := qx36.trans (congrArg F70 (by omega))
  refine zw_49 (c := 78) (len := 10) zr_166_117 rfl rfl (by omega) (by omega) ?_
  intro m38 em38
  have hIm38 : zInv m38 := by rw [em38]; exact iu_78 hIm35 (by omega)
  have hFm38 : zFr W_166 m0 m38 := by rw [em38]; exact hFm35.any rfl
  have km38_69_5 : m38 69 5 = a0 := by rw [em38, zUp_ne (by omega)]; exact km35_69_5
  have km38_69_17 : m38 69 17 = r9 := by rw [em38, zUp_ne (by omega)]; exact km35_69_17
  have km38_69_18 : m38 69 18 = r14 := by rw [em38, zUp_ne (by omega)]; exact km35_69_18
  have fm38_70 : m38 70 = F70 := by rw [em38, zUp_fn (by decide)]; exact fm35_70
  have fm38_76 : m38 76 = zPt (zPt F76 ((x2).toNat) ((x16 + r9))) ((x4).toNat) ((x21 + r14)) := by rw [em38, zUp_fn (by decide)]; exact fm35_76
  have fm38_77 : m38 77 = zPt (zPt F77 ((x2).toNat) ((x26 + 1))) ((x4).toNat) ((x31 + 1)) := by rw [em38, zUp_fn (by decide)]; exact fm35_77
  have fm38_78 : m38 78 = zPt F78 ((x2).toNat) x36 := by rw [em38]; exact (zUp_ff (m := m35)).trans (congrArg (fun q => zPt q ((x2).toNat) x36) fm35_78)
  clear em38
  refine zw_7 zr_166_118 rfl ?_
  refine zw_46r (s := 78) zr_166_119 rfl rfl rfl rfl ?_
  refine zw_4 zr_166_122 rfl ?_
  refine zw_7 zr_166_124 rfl ?_
  refine zw_3 zr_166_125 rfl ?_
  refine zw_push zr_166_126 ?_
  refine zw_C zr_166_127 (Or.inl rfl) zm_144 rfl rfl ⟨Nat.le_of_ble_eq_true rfl, Nat.le_of_ble_eq_true rfl, Nat.le_of_ble_eq_true rfl, rfl, by decide⟩ (by omega) (P := (fun v m' => zW E (d) 166 130 [(2, 69), (0, a0), (0, a1), (0, x2), (0, x4)] (if v.1 = 9 then [(0, x4), (2, 78)] else v :: [(0, x4), (2, 78)]) m' Q)) ?_ (fun _ _ h => h)
  generalize hQ1 : (fun v m' => zW E (d) 166 130 [(2, 69), (0, a0), (0, a1), (0, x2), (0, x4)] (if v.1 = 9 then [(0, x4), (2, 78)] else v :: [(0, x4), (2, 78)]) m' Q) = Q1
  show zW E (d - 1) 144 0 [(2, 69), (0, a1), (0, 0)] [] m38 Q1
  refine zw_7 zr_144_0 rfl ?_
  refine zw_46r (s := 70) zr_144_1 rfl rfl rfl rfl ?_
  refine zw_push zr_144_4 ?_
  refine zw_push zr_144_6 ?_
  refine zw_3 zr_144_8 rfl ?_
  refine zw_18 zr_144_9 (by omega) ?_
  refine zw_16 zr_144_10 (by omega) ?_
  refine zw_3 zr_144_11 rfl ?_
  refine zw_16 zr_144_12 (by omega) ?_
  refine zw_48 (c := 70) (len := 826) zr_144_13 rfl rfl (by omega) (by omega) ?_
  intro x39 ex39
  have bx39 := ib_70_m0 hIm38 (k := (((90 + (6 * a1)) + 0)).toNat) (by omega)
  rw [← ex39] at bx39
  have qx39 : x39 = F70 (((90 + (6 * a1)) + 0)).toNat := by rw [← fm38_70]; exact ex39
  clear ex39
  refine zw_R zr_144_14 (by decide) zm_144 (v := (0, x39)) rfl ?_
  rw [← hQ1]
  show zW E (d) 166 130 [(2, 69), (0, a0), (0, a1), (0, x2), (0, x4)] [(0, x39), (0, x4), (2, 78)] m38 Q
  have hy2 : x39 = x36 := (qx39.trans (congrArg F70 (by omega))).trans hY.symm
  refine zw_49 (c := 78) (len := 10) zr_166_130 rfl rfl (by omega) (by omega) ?_
  intro m41 em41
  have hIm41 : zInv m41 := by rw [em41]; exact iu_78 hIm38 (by omega)
  have hFm41 : zFr W_166 m0 m41 := by rw [em41]; exact hFm38.any rfl
  have km41_69_5 : m41 69 5 = a0 := by rw [em41, zUp_ne (by omega)]; exact km38_69_5
  have km41_69_17 : m41 69 17 = r9 := by rw [em41, zUp_ne (by omega)]; exact km38_69_17
  have km41_69_18 : m41 69 18 = r14 := by rw [em41, zUp_ne (by omega)]; exact km38_69_18
  have fm41_70 : m41 70 = F70 := by rw [em41, zUp_fn (by decide)]; exact fm38_70
  have fm41_76 : m41 76 = zPt (zPt F76 ((x2).toNat) ((x16 + r9))) ((x4).toNat) ((x21 + r14)) := by rw [em41, zUp_fn (by decide)]; exact fm38_76
  have fm41_77 : m41 77 = zPt (zPt F77 ((x2).toNat) ((x26 + 1))) ((x4).toNat) ((x31 + 1)) := by rw [em41, zUp_fn (by decide)]; exact fm38_77
  have fm41_78 : m41 78 = zPt (zPt F78 ((x2).toNat) x36) ((x4).toNat) x39 := by rw [em41]; exact (zUp_ff (m := m38)).trans (congrArg (fun q => zPt q ((x4).toNat) x39) fm38_78)
  clear em41
  have hZ : zPz (cht F70 a0) (fun i => F70 (91 + 6 * i)) (fun i => F70 (92 + 6 * i)) (fun i => F70 (93 + 6 * i)) (fun i => F70 (90 + 6 * i)) (fun i => F70 (94 + 6 * i)) a1.toNat (F76, F77, F78) ((zPt (zPt F76 ((x2).toNat) ((x16 + r9))) ((x4).toNat) ((x21 + r14))), (zPt (zPt F77 ((x2).toNat) ((x26 + 1))) ((x4).toNat) ((x31 + 1))), (zPt (zPt F78 ((x2).toNat) x36) ((x4).toNat) x39)) r9 r14 := (zPz_m (f1 := zPt F76 (x2).toNat (x16 + r9)) (g1 := zPt F77 (x2).toNat (x26 + 1)) (h1 := zPt F78 (x2).toNat x36) hA hB hE hY hc1 hc2 (by rw [← hx1]) (by rw [← hg1]) rfl (by rw [← hx2]) (by rw [← hg2]) (by rw [hy2]))
  refine zw_R zr_166_131 (by decide) zm_166 (v := (9, 0)) rfl ?_
  rw [← hQ]; exact ⟨rfl, hIm41, hFm41, by rw [fm41_76, fm41_77, fm41_78, km41_69_17, km41_69_18]; exact hZ, by rw [fm41_76, fm41_77, fm41_78]; exact zPz_b (i := a1) hZ hp0 (by omega) rfl, by omega⟩

abbrev W_168 : List (Nat × Nat) := [(69, 5), (69, 6), (69, 7), (69, 9), (69, 11), (69, 13), (69, 17), (69, 18), (73, 1000), (74, 1000), (75, 1000), (76, 1000), (77, 1000), (78, 1000)]
set_option maxHeartbeats 8000000 in
theorem th_168 {E : zE} {d : Nat} {m0 : zM} {a0 : Int} {a1 : Int} {a2 : Int} {g0 : Int} {g1 : Int} {F70 : Nat → Int} {F76 : Nat → Int} {F77 : Nat → Int} {F78 : Nat → Int} (hd : 6 ≤ d) (hI0 : zInv m0) (hg0 : m0 70 822 = g0) (hg1 : m0 70 823 = g1) (hG70 : m0 70 = F70) (hG76 : m0 76 = F76) (hG77 : m0 77 = F77) (hG78 : m0 78 = F78) (ha0 : (-2147483648) ≤ a0 ∧ a0 ≤ 2147483647) (ha1 : (-2147483648) ≤ a1 ∧ a1 ≤ 2147483647) (ha2 : (-2147483648) ≤ a2 ∧ a2 ≤ 2147483647) : zC E d 168 [(2, 69), (0, a0), (0, a1), (0, a2)] m0 (fun v m' => ∃ r : Int, v = (0, r) ∧ (-2147483648) ≤ r ∧ r ≤ 2147483647 ∧ zInv m' ∧ zFr W_168 m0 m' ∧ ((r = -100000 ∧ (a0 < 0 ∨ 3 < a0 ∨ a1 < 0 ∨ g0 ≤ a1 ∨ a2 < 0 ∨ g1 < a2)) ∨ ((0 ≤ a0 ∧ a0 ≤ 3 ∧ 0 ≤ a1 ∧ a1 < g0 ∧ 0 ≤ a2 ∧ a2 ≤ g1) ∧ ∃ S, zRn (psr (cht F70 a0) (fun i => F70 (91 + 6 * i)) (fun i => F70 (92 + 6 * i)) (fun i => F70 (93 + 6 * i)) (fun i => F70 (90 + 6 * i)) (fun i => F70 (94 + 6 * i))) (fun _ => 1) (F70 (450 + 52 * a0).toNat) S a2 ∧ r = S.1 a1.toNat))) := by
  have hF0 : zFr W_168 m0 m0 := zFr.rfl
  have bg0 : 0 ≤ m0 70 822 ∧ m0 70 822 ≤ 10 := ib_70_players hI0 (by omega)
  rw [hg0] at bg0
  have bg1 : 0 ≤ m0 70 823 ∧ m0 70 823 ≤ 60 := ib_70_meetings hI0 (by omega)
  rw [hg1] at bg1
  generalize hQ : (fun (v : zV) (m' : zM) => ∃ r : Int, v = (0, r) ∧ (-2147483648) ≤ r ∧ r ≤ 2147483647 ∧ zInv m' ∧ zFr W_168 m0 m' ∧ ((r = -100000 ∧ (a0 < 0 ∨ 3 < a0 ∨ a1 < 0 ∨ g0 ≤ a1 ∨ a2 < 0 ∨ g1 < a2)) ∨ ((0 ≤ a0 ∧ a0 ≤ 3 ∧ 0 ≤ a1 ∧ a1 < g0 ∧ 0 ≤ a2 ∧ a2 ≤ g1) ∧ ∃ S, zRn (psr (cht F70 a0) (fun i => F70 (91 + 6 * i)) (fun i => F70 (92 + 6 * i)) (fun i => F70 (93 + 6 * i)) (fun i => F70 (90 + 6 * i)) (fun i => F70 (94 + 6 * i))) (fun _ => 1) (F70 (450 + 52 * a0).toNat) S a2 ∧ r = S.1 a1.toNat))) = Q
  show zW E d 168 0 [(2, 69), (0, a0), (0, a1), (0, a2), (9, 0)] [] m0 Q
  refine zw_3 zr_168_0 rfl ?_
  refine zw_C zr_168_1 (Or.inr rfl) zm_148 rfl rfl ⟨Nat.le_of_ble_eq_true rfl, Nat.le_of_ble_eq_true rfl, Nat.le_of_ble_eq_true rfl, rfl, by decide⟩ (by omega) (P := (fun v m' => zW E (d) 168 4 [(2, 69), (0, a0), (0, a1), (0, a2), (9, 0)] (if v.1 = 9 then [] else v :: []) m' Q)) ?_ (fun _ _ h => h)
  generalize hQ1 : (fun v m' => zW E (d) 168 4 [(2, 69), (0, a0), (0, a1), (0, a2), (9, 0)] (if v.1 = 9 then [] else v :: []) m' Q) = Q1
  show zW E (d - 1) 148 0 [(0, a0)] [] m0 Q1
  refine zw_3 zr_148_0 rfl ?_
  refine zw_36 zr_148_1 ?_
  refine zw_push zr_148_2 ?_
  refine zw_push zr_148_3 ?_
  refine zw_C zr_148_6 (Or.inr rfl) zm_140 rfl rfl ⟨Nat.le_of_ble_eq_true rfl, Nat.le_of_ble_eq_true rfl, Nat.le_of_ble_eq_true rfl, rfl, by decide⟩ (by omega) (P := (fun v m' => zW E (d - 1) 148 9 [(0, a0)] (if v.1 = 9 then [] else v :: []) m' Q1)) ?_ (fun _ _ h => h)
  generalize hQ2 : (fun v m' => zW E (d - 1) 148 9 [(0, a0)] (if v.1 = 9 then [] else v :: []) m' Q1) = Q2
  show zW E (d - 1 - 1) 140 0 [(1, a0), (9, 0), (1, 0), (9, 0), (1, 3), (9, 0)] [] m0 Q2
  refine zw_5 zr_140_0 rfl ?_
  refine zw_5 zr_140_1 rfl ?_
  refine zw_39_0 zr_140_2 zr_140_3 ?_ ?_
  · intro h1
    refine zw_push zr_140_17 ?_
    refine zw_R zr_140_18 (by decide) zm_140 (v := (0, 0)) (zRetB (by omega)) ?_
    rw [← hQ2]
    show zW E (d - 1) 148 9 [(0, a0)] [(0, 0)] m0 Q1
    refine zw_R zr_148_9 (by decide) zm_148 (v := (0, 0)) (zRetB (by omega)) ?_
    rw [← hQ1]
    show zW E (d) 168 4 [(2, 69), (0, a0), (0, a1), (0, a2), (9, 0)] [(0, 0)] m0 Q
    refine zw_40_1 zr_168_4 ?_ ?_
    · intro h2
      refine zw_push zr_168_29 ?_
      refine zw_R zr_168_31 (by decide) zm_168 (v := (0, (-100000))) rfl ?_
      rw [← hQ]; exact ⟨_, rfl, by omega, by omega, hI0, hF0, by first | exact Or.inr ⟨by omega, (F76, F77, F78), (by have z := zz; rw [show zz = a2 by omega] at z; exact z), qzz⟩ | exact Or.inl ⟨rfl, by omega⟩⟩
    · intro h4; omega
  · intro h5
    refine zw_5 zr_140_6 rfl ?_
    refine zw_6 zr_140_7 rfl ?_
    refine zw_39_2 zr_140_9 zr_140_10 ?_ ?_
    · intro h6
      refine zw_push zr_140_17 ?_
      refine zw_R zr_140_18 (by decide) zm_140 (v := (0, 0)) (zRetB (by omega)) ?_
      rw [← hQ2]
      show zW E (d - 1) 148 9 [(0, a0)] [(0, 0)] m0 Q1
      refine zw_R zr_148_9 (by decide) zm_148 (v := (0, 0)) (zRetB (by omega)) ?_
      rw [← hQ1]
      show zW E (d) 168 4 [(2, 69), (0, a0), (0, a1), (0, a2), (9, 0)] [(0, 0)] m0 Q
      refine zw_40_1 zr_168_4 ?_ ?_
      · intro h7
        refine zw_push zr_168_29 ?_
        refine zw_R zr_168_31 (by decide) zm_168 (v := (0, (-100000))) rfl ?_
        rw [← hQ]; exact ⟨_, rfl, by omega, by omega, hI0, hF0, by first | exact Or.inr ⟨by omega, (F76, F77, F78), (by have z := zz; rw [show zz = a2 by omega] at z; exact z), qzz⟩ | exact Or.inl ⟨rfl, by omega⟩⟩
      · intro h9; omega
    · intro h10
      refine zw_push zr_140_13 ?_
      refine zw_42 zr_140_14 ?_
      refine zw_R zr_140_18 (by decide) zm_140 (v := (0, 1)) (zRetB (by omega)) ?_
      rw [← hQ2]
      show zW E (d - 1) 148 9 [(0, a0)] [(0, 1)] m0 Q1
      refine zw_R zr_148_9 (by decide) zm_148 (v := (0, 1)) (zRetB (by omega)) ?_
      rw [← hQ1]
      show zW E (d) 168 4 [(2, 69), (0, a0), (0, a1), (0, a2), (9, 0)] [(0, 1)] m0 Q
      refine zw_40_1 zr_168_4 ?_ ?_
      · intro h11; omega
      · intro h12
        refine zw_7 zr_168_7 rfl ?_
        refine zw_3 zr_168_8 rfl ?_
        refine zw_C zr_168_9 (Or.inl rfl) zm_143 rfl rfl ⟨Nat.le_of_ble_eq_true rfl, Nat.le_of_ble_eq_true rfl, Nat.le_of_ble_eq_true rfl, rfl, by decide⟩ (by omega) (P := (fun v m' => zW E (d) 168 12 [(2, 69), (0, a0), (0, a1), (0, a2), (9, 0)] (if v.1 = 9 then [] else v :: []) m' Q)) ?_ (fun _ _ h => h)
        generalize hQ1 : (fun v m' => zW E (d) 168 12 [(2, 69), (0, a0), (0, a1), (0, a2), (9, 0)] (if v.1 = 9 then [] else v :: []) m' Q) = Q1
        show zW E (d - 1) 143 0 [(2, 69), (0, a1)] [] m0 Q1
        refine zw_3 zr_143_0 rfl ?_
        refine zw_36 zr_143_1 ?_
        refine zw_push zr_143_2 ?_
        refine zw_7 zr_143_3 rfl ?_
        refine zw_C zr_143_4 (Or.inl rfl) zm_141 rfl rfl ⟨Nat.le_of_ble_eq_true rfl, Nat.le_of_ble_eq_true rfl, Nat.le_of_ble_eq_true rfl, rfl, by decide⟩ (by omega) (P := (fun v m' => zW E (d - 1) 143 7 [(2, 69), (0, a1)] (if v.1 = 9 then [(1, 0), (1, a1)] else v :: [(1, 0), (1, a1)]) m' Q1)) ?_ (fun _ _ h => h)
        generalize hQ2 : (fun v m' => zW E (d - 1) 143 7 [(2, 69), (0, a1)] (if v.1 = 9 then [(1, 0), (1, a1)] else v :: [(1, 0), (1, a1)]) m' Q1) = Q2
        show zW E (d - 1 - 1) 141 0 [(2, 69)] [] m0 Q2
        refine zw_7 zr_141_0 rfl ?_
        refine zw_46r (s := 70) zr_141_1 rfl rfl rfl rfl ?_
        refine zw_push zr_141_4 ?_
        refine zw_48k (c := 70) (len := 826) zr_141_7 rfl rfl (by omega) (by omega) (show (822 : Int).toNat = 822 by omega) hg0 ?_
        refine zw_R zr_141_8 (by decide) zm_141 (v := (0, g0)) rfl ?_
        rw [← hQ2]
        show zW E (d - 1) 143 7 [(2, 69), (0, a1)] [(0, g0), (1, 0), (1, a1)] m0 Q1
        refine zw_push zr_143_7 ?_
        refine zw_17 zr_143_8 (by omega) ?_
        refine zw_36 zr_143_9 ?_
        refine zw_C zr_143_10 (Or.inr rfl) zm_140 rfl rfl ⟨Nat.le_of_ble_eq_true rfl, Nat.le_of_ble_eq_true rfl, Nat.le_of_ble_eq_true rfl, rfl, by decide⟩ (by omega) (P := (fun v m' => zW E (d - 1) 143 13 [(2, 69), (0, a1)] (if v.1 = 9 then [] else v :: []) m' Q1)) ?_ (fun _ _ h => h)
        generalize hQ2 : (fun v m' => zW E (d - 1) 143 13 [(2, 69), (0, a1)] (if v.1 = 9 then [] else v :: []) m' Q1) = Q2
        show zW E (d - 1 - 1) 140 0 [(1, a1), (9, 0), (1, 0), (9, 0), (1, (g0 - 1)), (9, 0)] [] m0 Q2
        refine zw_5 zr_140_0 rfl ?_
        refine zw_5 zr_140_1 rfl ?_
        refine zw_39_0 zr_140_2 zr_140_3 ?_ ?_
        · intro h13
          refine zw_push zr_140_17 ?_
          refine zw_R zr_140_18 (by decide) zm_140 (v := (0, 0)) (zRetB (by omega)) ?_
          rw [← hQ2]
          show zW E (d - 1) 143 13 [(2, 69), (0, a1)] [(0, 0)] m0 Q1
          refine zw_R zr_143_13 (by decide) zm_143 (v := (0, 0)) (zRetB (by omega)) ?_
          rw [← hQ1]
          show zW E (d) 168 12 [(2, 69), (0, a0), (0, a1), (0, a2), (9, 0)] [(0, 0)] m0 Q
          refine zw_40_1 zr_168_12 ?_ ?_
          · intro h14
            refine zw_push zr_168_29 ?_
            refine zw_R zr_168_31 (by decide) zm_168 (v := (0, (-100000))) rfl ?_
            rw [← hQ]; exact ⟨_, rfl, by omega, by omega, hI0, hF0, by first | exact Or.inr ⟨by omega, (F76, F77, F78), (by have z := zz; rw [show zz = a2 by omega] at z; exact z), qzz⟩ | exact Or.inl ⟨rfl, by omega⟩⟩
          · intro h16; omega
        · intro h17
          refine zw_5 zr_140_6 rfl ?_
          refine zw_6 zr_140_7 rfl ?_
          refine zw_39_2 zr_140_9 zr_140_10 ?_ ?_
          · intro h18
            refine zw_push zr_140_17 ?_
            refine zw_R zr_140_18 (by decide) zm_140 (v := (0, 0)) (zRetB (by omega)) ?_
            rw [← hQ2]
            show zW E (d - 1) 143 13 [(2, 69), (0, a1)] [(0, 0)] m0 Q1
            refine zw_R zr_143_13 (by decide) zm_143 (v := (0, 0)) (zRetB (by omega)) ?_
            rw [← hQ1]
            show zW E (d) 168 12 [(2, 69), (0, a0), (0, a1), (0, a2), (9, 0)] [(0, 0)] m0 Q
            refine zw_40_1 zr_168_12 ?_ ?_
            · intro h19
              refine zw_push zr_168_29 ?_
              refine zw_R zr_168_31 (by decide) zm_168 (v := (0, (-100000))) rfl ?_
              rw [← hQ]; exact ⟨_, rfl, by omega, by omega, hI0, hF0, by first | exact Or.inr ⟨by omega, (F76, F77, F78), (by have z := zz; rw [show zz = a2 by omega] at z; exact z), qzz⟩ | exact Or.inl ⟨rfl, by omega⟩⟩
            · intro h21; omega
          · intro h22
            refine zw_push zr_140_13 ?_
            refine zw_42 zr_140_14 ?_
            refine zw_R zr_140_18 (by decide) zm_140 (v := (0, 1)) (zRetB (by omega)) ?_
            rw [← hQ2]
            show zW E (d - 1) 143 13 [(2, 69), (0, a1)] [(0, 1)] m0 Q1
            refine zw_R zr_143_13 (by decide) zm_143 (v := (0, 1)) (zRetB (by omega)) ?_
            rw [← hQ1]
            show zW E (d) 168 12 [(2, 69), (0, a0), (0, a1), (0, a2), (9, 0)] [(0, 1)] m0 Q
            refine zw_40_1 zr_168_12 ?_ ?_
            · intro h23; omega
            · intro h24
              refine zw_3 zr_168_15 rfl ?_
              refine zw_36 zr_168_16 ?_
              refine zw_push zr_168_17 ?_
              refine zw_7 zr_168_18 rfl ?_
              refine zw_C zr_168_19 (Or.inl rfl) zm_142 rfl rfl ⟨Nat.le_of_ble_eq_true rfl, Nat.le_of_ble_eq_true rfl, Nat.le_of_ble_eq_true rfl, rfl, by decide⟩ (by omega) (P := (fun v m' => zW E (d) 168 22 [(2, 69), (0, a0), (0, a1), (0, a2), (9, 0)] (if v.1 = 9 then [(1, 0), (1, a2)] else v :: [(1, 0), (1, a2)]) m' Q)) ?_ (fun _ _ h => h)
              generalize hQ1 : (fun v m' => zW E (d) 168 22 [(2, 69), (0, a0), (0, a1), (0, a2), (9, 0)] (if v.1 = 9 then [(1, 0), (1, a2)] else v :: [(1, 0), (1, a2)]) m' Q) = Q1
              show zW E (d - 1) 142 0 [(2, 69)] [] m0 Q1
              refine zw_7 zr_142_0 rfl ?_
              refine zw_46r (s := 70) zr_142_1 rfl rfl rfl rfl ?_
              refine zw_push zr_142_4 ?_
              refine zw_48k (c := 70) (len := 826) zr_142_7 rfl rfl (by omega) (by omega) (show (823 : Int).toNat = 823 by omega) hg1 ?_
              refine zw_R zr_142_8 (by decide) zm_142 (v := (0, g1)) rfl ?_
              rw [← hQ1]
              show zW E (d) 168 22 [(2, 69), (0, a0), (0, a1), (0, a2), (9, 0)] [(0, g1), (1, 0), (1, a2)] m0 Q
              refine zw_36 zr_168_22 ?_
              refine zw_C zr_168_23 (Or.inr rfl) zm_140 rfl rfl ⟨Nat.le_of_ble_eq_true rfl, Nat.le_of_ble_eq_true rfl, Nat.le_of_ble_eq_true rfl, rfl, by decide⟩ (by omega) (P := (fun v m' => zW E (d) 168 26 [(2, 69), (0, a0), (0, a1), (0, a2), (9, 0)] (if v.1 = 9 then [] else v :: []) m' Q)) ?_ (fun _ _ h => h)
              generalize hQ1 : (fun v m' => zW E (d) 168 26 [(2, 69), (0, a0), (0, a1), (0, a2), (9, 0)] (if v.1 = 9 then [] else v :: []) m' Q) = Q1
              show zW E (d - 1) 140 0 [(1, a2), (9, 0), (1, 0), (9, 0), (1, g1), (9, 0)] [] m0 Q1
              refine zw_5 zr_140_0 rfl ?_
              refine zw_5 zr_140_1 rfl ?_
              refine zw_39_0 zr_140_2 zr_140_3 ?_ ?_
              · intro h25
                refine zw_push zr_140_17 ?_
                refine zw_R zr_140_18 (by decide) zm_140 (v := (0, 0)) (zRetB (by omega)) ?_
                rw [← hQ1]
                show zW E (d) 168 26 [(2, 69), (0, a0), (0, a1), (0, a2), (9, 0)] [(0, 0)] m0 Q
                refine zw_40_4 zr_168_26 ?_ ?_
                · intro h26; omega
                · intro h27
                  refine zw_push zr_168_29 ?_
                  refine zw_R zr_168_31 (by decide) zm_168 (v := (0, (-100000))) rfl ?_
                  rw [← hQ]; exact ⟨_, rfl, by omega, by omega, hI0, hF0, by first | exact Or.inr ⟨by omega, (F76, F77, F78), (by have z := zz; rw [show zz = a2 by omega] at z; exact z), qzz⟩ | exact Or.inl ⟨rfl, by omega⟩⟩
              · intro h29
                refine zw_5 zr_140_6 rfl ?_
                refine zw_6 zr_140_7 rfl ?_
                refine zw_39_2 zr_140_9 zr_140_10 ?_ ?_
                · intro h30
                  refine zw_push zr_140_17 ?_
                  refine zw_R zr_140_18 (by decide) zm_140 (v := (0, 0)) (zRetB (by omega)) ?_
                  rw [← hQ1]
                  show zW E (d) 168 26 [(2, 69), (0, a0), (0, a1), (0, a2), (9, 0)] [(0, 0)] m0 Q
                  refine zw_40_4 zr_168_26 ?_ ?_
                  · intro h31; omega
                  · intro h32
                    refine zw_push zr_168_29 ?_
                    refine zw_R zr_168_31 (by decide) zm_168 (v := (0, (-100000))) rfl ?_
                    rw [← hQ]; exact ⟨_, rfl, by omega, by omega, hI0, hF0, by first | exact Or.inr ⟨by omega, (F76, F77, F78), (by have z := zz; rw [show zz = a2 by omega] at z; exact z), qzz⟩ | exact Or.inl ⟨rfl, by omega⟩⟩
                · intro h34
                  refine zw_push zr_140_13 ?_
                  refine zw_42 zr_140_14 ?_
                  refine zw_R zr_140_18 (by decide) zm_140 (v := (0, 1)) (zRetB (by omega)) ?_
                  rw [← hQ1]
                  show zW E (d) 168 26 [(2, 69), (0, a0), (0, a1), (0, a2), (9, 0)] [(0, 1)] m0 Q
                  refine zw_40_4 zr_168_26 ?_ ?_
                  · intro h35
                    refine zw_7 zr_168_32 rfl ?_
                    refine zw_3 zr_168_33 rfl ?_
                    refine zw_C zr_168_34 (Or.inl rfl) zm_164 rfl rfl ⟨Nat.le_of_ble_eq_true rfl, Nat.le_of_ble_eq_true rfl, Nat.le_of_ble_eq_true rfl, rfl, by decide⟩ (by omega) (th_164 (d := d - 1) (by omega) hI0 (a0 := a0)   (F70 := F70) (F76 := F76) (F77 := F77) (F78 := F78)  hG70 hG76 hG77 hG78 (by omega) ) ?_
                    rintro _ m36 ⟨rfl, hIm36, gm36, po0_m36⟩
                    have hFm36 : zFr W_168 m0 m36 := hF0.trans gm36 rfl
                    have km36_70_822 : m36 70 822 = g0 := (gm36 70 822 rfl).trans hg0
                    have km36_70_823 : m36 70 823 = g1 := (gm36 70 823 rfl).trans hg1
                    have fm36_70 : m36 70 = F70 := (funext fun k => gm36 70 k rfl).trans hG70
                    obtain ⟨f37, fm36_76⟩ : ∃ f, m36 76 = f := ⟨_, rfl⟩
                    try rw [fm36_76] at po0_m36
                    obtain ⟨f38, fm36_77⟩ : ∃ f, m36 77 = f := ⟨_, rfl⟩
                    try rw [fm36_77] at po0_m36
                    obtain ⟨f39, fm36_78⟩ : ∃ f, m36 78 = f := ⟨_, rfl⟩
                    try rw [fm36_78] at po0_m36
                    show zW E (d) 168 37 [(2, 69), (0, a0), (0, a1), (0, a2), (9, 0)] [] m36 Q
                    have hV : 0 ≤ F70 (450 + 52 * a0).toNat ∧ F70 (450 + 52 * a0).toNat ≤ 9999 ∧ (0 : Int) = 0 := by have z := ib_70_s0 hI0 (k := (450 + 52 * a0).toNat) (by omega); rw [hG70] at z; omega
                    refine zw_push zr_168_37 ?_
                    refine zw_10 (L' := [(2, 69), (0, a0), (0, a1), (0, a2), (0, 0)]) zr_168_38 (Nat.le_of_ble_eq_true rfl) rfl ?_
                    have lp40_46 : ∀ (nlp40_46 : Nat) (i41 : Int) (f43 : Nat → Int) (f44 : Nat → Int) (f45 : Nat → Int) (m42 : zM), zInv m42 → zFr W_168 m0 m42 → m42 70 822 = g0 → m42 70 823 = g1 → m42 70 = F70 → m42 76 = f43 → m42 77 = f44 → m42 78 = f45 → 0 ≤ i41 → i41 ≤ 60 → (zRn (psr (cht F70 a0) (fun i => F70 (91 + 6 * i)) (fun i => F70 (92 + 6 * i)) (fun i => F70 (93 + 6 * i)) (fun i => F70 (90 + 6 * i)) (fun i => F70 (94 + 6 * i))) (fun _ => 1) (F70 (450 + 52 * a0).toNat) (f43, f44, f45) i41) → (zPb (f43, f44, f45) i41) → (i41 ≤ a2 ∨ i41 = 0) → (60 - i41).toNat < nlp40_46 → zW E (d) 168 40 [(2, 69), (0, a0), (0, a1), (0, a2), (0, i41)] [] m42 Q := by
                      intro nlp40_46
                      induction nlp40_46 with
                      | zero =>
                        intros
                        exact absurd (by assumption : _ < 0) (Nat.not_lt_zero _)
                      | succ nlp40_46 ihlp40_46 =>
                        intro i41 f43 f44 f45 m42 hIm42 hFm42 km42_70_822 km42_70_823 fm42_70 fm42_76 fm42_77 fm42_78 li41 ui41 hv0lp40_46 hv1lp40_46 hv2lp40_46 hmlp40_46
                        refine zw_4 zr_168_40 rfl ?_
                        refine zw_3 zr_168_42 rfl ?_
                        refine zw_41_3 zr_168_43 ?_ ?_
                        · intro h48
                          refine zw_7 zr_168_59 rfl ?_
                          refine zw_46r (s := 76) zr_168_60 rfl rfl rfl rfl ?_
                          refine zw_3 zr_168_63 rfl ?_
                          refine zw_48 (c := 76) (len := 10) zr_168_64 rfl rfl (by omega) (by omega) ?_
                          intro x49 ex49
                          have bx49 := hIm42.ra (c := 76) (len := 10) (k := (a1).toNat) rfl (by omega)
                          rw [← ex49] at bx49
                          have qx49 : x49 = f43 (a1).toNat := by rw [← fm42_76]; exact ex49
                          clear ex49
                          refine zw_R zr_168_65 (by decide) zm_168 (v := (0, x49)) rfl ?_
                          rw [← hQ]; exact ⟨_, rfl, by omega, by omega, hIm42, hFm42, by first | exact Or.inr ⟨by omega, (f43, f44, f45), (by have z := hv0lp40_46; rw [show i41 = a2 by omega] at z; exact z), qx49⟩ | exact Or.inl ⟨rfl, by omega⟩⟩
                        · intro h51
                          refine zw_7 zr_168_46 rfl ?_
                          refine zw_3 zr_168_47 rfl ?_
                          refine zw_4 zr_168_48 rfl ?_
                          refine zw_C zr_168_50 (Or.inl rfl) zm_166 rfl rfl ⟨Nat.le_of_ble_eq_true rfl, Nat.le_of_ble_eq_true rfl, Nat.le_of_ble_eq_true rfl, rfl, by decide⟩ (by omega) (th_166 (d := d - 1) (by omega) hIm42 (a0 := a0) (a1 := i41)  (gN := i41) (F70 := F70) (F76 := f43) (F77 := f44) (F78 := f45)  fm42_70 fm42_76 fm42_77 fm42_78 (by omega) (by omega) (hv1lp40_46) (by omega)) ?_
                          rintro _ m54 ⟨rfl, hIm54, gm54, po0_m54, po1_m54, po2_m54⟩
                          have hFm54 : zFr W_168 m0 m54 := hFm42.trans gm54 rfl
                          have km54_70_822 : m54 70 822 = g0 := (gm54 70 822 rfl).trans km42_70_822
                          have km54_70_823 : m54 70 823 = g1 := (gm54 70 823 rfl).trans km42_70_823
                          have fm54_70 : m54 70 = F70 := (funext fun k => gm54 70 k rfl).trans fm42_70
                          obtain ⟨f55, fm54_76⟩ : ∃ f, m54 76 = f := ⟨_, rfl⟩
                          try rw [fm54_76] at po0_m54
                          try rw [fm54_76] at po1_m54
                          obtain ⟨f56, fm54_77⟩ : ∃ f, m54 77 = f := ⟨_, rfl⟩
                          try rw [fm54_77] at po0_m54
                          try rw [fm54_77] at po1_m54
                          obtain ⟨f57, fm54_78⟩ : ∃ f, m54 78 = f := ⟨_, rfl⟩
                          try rw [fm54_78] at po0_m54
                          try rw [fm54_78] at po1_m54
                          obtain ⟨f58, ef58⟩ : ∃ v, m54 69 17 = v := ⟨_, rfl⟩
                          have bf58 := hIm54.fi (c := 69) (k := 17) rfl
                          rw [ef58] at bf58
                          rw [ef58] at po0_m54
                          rw [ef58] at po2_m54
                          obtain ⟨f59, ef59⟩ : ∃ v, m54 69 18 = v := ⟨_, rfl⟩
                          have bf59 := hIm54.fi (c := 69) (k := 18) rfl
                          rw [ef59] at bf59
                          rw [ef59] at po0_m54
                          rw [ef59] at po2_m54
                          show zW E (d) 168 53 [(2, 69), (0, a0), (0, a1), (0, a2), (0, i41)] [] m54 Q
                          refine zw_15 (c := 1) (L' := [(2, 69), (0, a0), (0, a1), (0, a2), (0, (i41 + 1))]) zr_168_53 rfl (by decide) (by omega) rfl ?_
                          refine zw_42 zr_168_56 ?_
                          exact zw_less (L := [(2, 69), (0, a0), (0, a1), (0, a2), (0, (i41 + 1))]) ⟨Or.inr rfl, Or.inr rfl, Or.inr rfl, Or.inr rfl, Or.inr rfl, trivial⟩ (ihlp40_46 ((i41 + 1)) (f55) (f56) (f57) m54 hIm54 hFm54  km54_70_822 km54_70_823 fm54_70 fm54_76 fm54_77 fm54_78 (by omega) (by omega) (zRn_y hv0lp40_46 po0_m54 (by rfl) (by omega)) (po1_m54) (by omega) (by omega))
                    exact lp40_46 _ (0) (f37) (f38) (f39) m36 hIm36 hFm36  km36_70_822 km36_70_823 fm36_70 fm36_76 fm36_77 fm36_78 (by omega) (by omega) (zRn_0 po0_m36 rfl) (zPb_r0 po0_m36 hV) (by omega) (Nat.lt_succ_self _)
                  · intro h64; omega

abbrev W_42 : List (Nat × Nat) := [(43, 5), (44, 1000), (45, 1), (45, 5), (45, 6), (45, 7), (45, 8), (45, 9), (46, 1000), (47, 1000), (48, 1000), (49, 1000), (50, 1000), (51, 1000)]
set_option maxHeartbeats 8000000 in
theorem th_42 {E : zE} {d : Nat} {m0 : zM} {a0 : Int} {a1 : Int} {g0 : Int} {g1 : Int} {F5 : Nat → Int} {F6 : Nat → Int} {F7 : Nat → Int} {F8 : Nat → Int} {F10 : Nat → Int} {F11 : Nat → Int} {F44 : Nat → Int} {F48 : Nat → Int} {F50 : Nat → Int} {F51 : Nat → Int} {F9 : Nat → Int} (hd : 95 ≤ d) (hI0 : zInv m0) (hg0 : m0 1 1 = g0) (hg1 : m0 1 2 = g1) (hG5 : m0 5 = F5) (hG6 : m0 6 = F6) (hG7 : m0 7 = F7) (hG8 : m0 8 = F8) (hG10 : m0 10 = F10) (hG11 : m0 11 = F11) (hG44 : m0 44 = F44) (hG48 : m0 48 = F48) (hG50 : m0 50 = F50) (hG51 : m0 51 = F51) (hG9 : m0 9 = F9) (ha0 : 0 ≤ a0 ∧ a0 ≤ 3) (ha1 : 0 ≤ a1 ∧ a1 ≤ 99) : zC E d 42 [(2, 43), (0, a0), (0, a1)] m0 (fun v m' => ∃ r : Int, v = (0, r) ∧ (-60000) ≤ r ∧ r ≤ 60000 ∧ zInv m' ∧ zFr W_42 m0 m' ∧ (∃ S, zAn (pst (chc F11 F10 a0) F6 F7 F8 F5 (zbt g1)) (fun _ => 1) (cpy (chc F11 F10 a0) F6 F7 F8 F5 (zbt g1) a1) (F9 a0.toNat) S r g0)) := by
  have hF0 : zFr W_42 m0 m0 := zFr.rfl
  have bg0 := ib_1_1 hI0
  rw [hg0] at bg0
  have bg1 := ib_1_2 hI0
  rw [hg1] at bg1
  generalize hQ : (fun (v : zV) (m' : zM) => ∃ r : Int, v = (0, r) ∧ (-60000) ≤ r ∧ r ≤ 60000 ∧ zInv m' ∧ zFr W_42 m0 m' ∧ (∃ S, zAn (pst (chc F11 F10 a0) F6 F7 F8 F5 (zbt g1)) (fun _ => 1) (cpy (chc F11 F10 a0) F6 F7 F8 F5 (zbt g1) a1) (F9 a0.toNat) S r g0)) = Q
  show zW E d 42 0 [(2, 43), (0, a0), (0, a1), (9, 0), (9, 0)] [] m0 Q
  refine zw_7 zr_42_0 rfl ?_
  refine zw_3 zr_42_1 rfl ?_
  refine zw_C zr_42_2 (Or.inl rfl) zm_16 rfl rfl ⟨Nat.le_of_ble_eq_true rfl, Nat.le_of_ble_eq_true rfl, Nat.le_of_ble_eq_true rfl, rfl, by decide⟩ (by omega) (th_16 (d := d - 1) (by omega) hI0 (a0 := a0)   (F9 := F9) (F10 := F10) (F11 := F11) (F44 := F44) (F48 := F48) (F50 := F50) (F51 := F51)  hG9 hG10 hG11 hG44 hG48 hG50 hG51 (by omega) ) ?_
  rintro _ m1 ⟨rfl, hIm1, gm1, po0_m1, po1_m1⟩
  have hFm1 : zFr W_42 m0 m1 := hF0.trans gm1 rfl
  have km1_1_1 : m1 1 1 = g0 := (gm1 1 1 rfl).trans hg0
  have km1_1_2 : m1 1 2 = g1 := (gm1 1 2 rfl).trans hg1
  have fm1_5 : m1 5 = F5 := (funext fun k => gm1 5 k rfl).trans hG5
  have fm1_6 : m1 6 = F6 := (funext fun k => gm1 6 k rfl).trans hG6
  have fm1_7 : m1 7 = F7 := (funext fun k => gm1 7 k rfl).trans hG7
  have fm1_8 : m1 8 = F8 := (funext fun k => gm1 8 k rfl).trans hG8
  have fm1_10 : m1 10 = F10 := (funext fun k => gm1 10 k rfl).trans hG10
  have fm1_11 : m1 11 = F11 := (funext fun k => gm1 11 k rfl).trans hG11
  obtain ⟨f2, fm1_44⟩ : ∃ f, m1 44 = f := ⟨_, rfl⟩
  try rw [fm1_44] at po1_m1
  obtain ⟨f3, fm1_48⟩ : ∃ f, m1 48 = f := ⟨_, rfl⟩
  try rw [fm1_48] at po0_m1
  obtain ⟨f4, fm1_50⟩ : ∃ f, m1 50 = f := ⟨_, rfl⟩
  try rw [fm1_50] at po1_m1
  obtain ⟨f5, fm1_51⟩ : ∃ f, m1 51 = f := ⟨_, rfl⟩
  try rw [fm1_51] at po1_m1
  have fm1_9 : m1 9 = F9 := (funext fun k => gm1 9 k rfl).trans hG9
  obtain ⟨f6, ef6⟩ : ∃ v, m1 45 1 = v := ⟨_, rfl⟩
  have bf6 := hIm1.fi (c := 45) (k := 1) rfl
  rw [ef6] at bf6
  rw [ef6] at po0_m1
  obtain ⟨f7, ef7⟩ : ∃ v, m1 45 8 = v := ⟨_, rfl⟩
  have bf7 := ib_45_8 hIm1
  rw [ef7] at bf7
  rw [ef7] at po0_m1
  show zW E (d) 42 5 [(2, 43), (0, a0), (0, a1), (9, 0), (9, 0)] [] m1 Q
  refine zw_push zr_42_5 ?_
  refine zw_9 (L' := [(2, 43), (0, a0), (0, a1), (0, 0), (9, 0)]) zr_42_6 (Nat.le_of_ble_eq_true rfl) rfl ?_
  refine zw_push zr_42_7 ?_
  refine zw_10 (L' := [(2, 43), (0, a0), (0, a1), (0, 0), (0, 0)]) zr_42_8 (Nat.le_of_ble_eq_true rfl) rfl ?_
  have lp10_14 : ∀ (nlp10_14 : Nat) (i8 i9 : Int) (f11 : Nat → Int) (f12 : Nat → Int) (f13 : Nat → Int) (m10 : zM), zInv m10 → zFr W_42 m0 m10 → m10 1 1 = g0 → m10 1 2 = g1 → m10 45 1 = f6 → m10 45 8 = f7 → m10 5 = F5 → m10 6 = F6 → m10 7 = F7 → m10 8 = F8 → m10 10 = F10 → m10 11 = F11 → m10 44 = f11 → m10 48 = f3 → m10 50 = f12 → m10 51 = f13 → m10 9 = F9 → (-60000) ≤ i8 → i8 ≤ 60000 → 0 ≤ i9 → i9 ≤ 60 → (zAn (pst (chc F11 F10 a0) F6 F7 F8 F5 (zbt g1)) (fun _ => 1) (cpy (chc F11 F10 a0) F6 F7 F8 F5 (zbt g1) a1) (F9 a0.toNat) (f11, f12, f13) i8 i9) → (zPb (f11, f12, f13) i9) → (-(1000 * i9) ≤ i8 ∧ i8 ≤ 1000 * i9 ∧ i9 ≤ g0) → (60 - i9).toNat < nlp10_14 → zW E (d) 42 10 [(2, 43), (0, a0), (0, a1), (0, i8), (0, i9)] [] m10 Q := by
    intro nlp10_14
    induction nlp10_14 with
    | zero =>
      intros
      exact absurd (by assumption : _ < 0) (Nat.not_lt_zero _)
    | succ nlp10_14 ihlp10_14 =>
      intro i8 i9 f11 f12 f13 m10 hIm10 hFm10 km10_1_1 km10_1_2 km10_45_1 km10_45_8 fm10_5 fm10_6 fm10_7 fm10_8 fm10_10 fm10_11 fm10_44 fm10_48 fm10_50 fm10_51 fm10_9 li8 ui8 li9 ui9 hv0lp10_14 hv1lp10_14 hv2lp10_14 hmlp10_14
      refine zw_4 zr_42_10 rfl ?_
      refine zw_7 zr_42_12 rfl ?_
      refine zw_46r (s := 1) zr_42_13 rfl rfl rfl rfl ?_
      refine zw_46i zr_42_16 km10_1_1 rfl rfl rfl ?_
      refine zw_41_3 zr_42_19 ?_ ?_
      · intro h16
        refine zw_3 zr_42_55 rfl ?_
        refine zw_R zr_42_56 (by decide) zm_42 (v := (0, i8)) rfl ?_
        rw [← hQ]; exact ⟨_, rfl, by omega, by omega, hIm10, hFm10, ⟨(f11, f12, f13), by have z := hv0lp10_14; rw [show i9 = g0 by omega] at z; exact z⟩⟩
      · intro h18
        refine zw_7 zr_42_22 rfl ?_
        refine zw_4 zr_42_23 rfl ?_
        refine zw_C zr_42_25 (Or.inl rfl) zm_26 rfl rfl ⟨Nat.le_of_ble_eq_true rfl, Nat.le_of_ble_eq_true rfl, Nat.le_of_ble_eq_true rfl, rfl, by decide⟩ (by omega) (th_26 (d := d - 1) (by omega) hIm10 (a0 := i9) (g0 := f6) (g1 := f7) (g2 := g1) (gS := a0) (gN := i9) (F5 := F5) (F6 := F6) (F7 := F7) (F8 := F8) (F10 := F10) (F11 := F11) (F44 := f11) (F48 := f3) (F50 := f12) (F51 := f13) km10_45_1 km10_45_8 km10_1_2 fm10_5 fm10_6 fm10_7 fm10_8 fm10_10 fm10_11 fm10_44 fm10_48 fm10_50 fm10_51 (by omega) (by assumption) (hv1lp10_14) (by omega)) ?_
        rintro _ m23 ⟨rfl, hIm23, gm23, po0_m23, po1_m23, po2_m23⟩
        have hFm23 : zFr W_42 m0 m23 := hFm10.trans gm23 rfl
        have km23_1_1 : m23 1 1 = g0 := (gm23 1 1 rfl).trans km10_1_1
        have km23_1_2 : m23 1 2 = g1 := (gm23 1 2 rfl).trans km10_1_2
        have km23_45_1 : m23 45 1 = f6 := (gm23 45 1 rfl).trans km10_45_1
        have km23_45_8 : m23 45 8 = f7 := (gm23 45 8 rfl).trans km10_45_8
        have fm23_5 : m23 5 = F5 := (funext fun k => gm23 5 k rfl).trans fm10_5
        have fm23_6 : m23 6 = F6 := (funext fun k => gm23 6 k rfl).trans fm10_6
        have fm23_7 : m23 7 = F7 := (funext fun k => gm23 7 k rfl).trans fm10_7
        have fm23_8 : m23 8 = F8 := (funext fun k => gm23 8 k rfl).trans fm10_8
        have fm23_10 : m23 10 = F10 := (funext fun k => gm23 10 k rfl).trans fm10_10
        have fm23_11 : m23 11 = F11 := (funext fun k => gm23 11 k rfl).trans fm10_11
        obtain ⟨f24, fm23_44⟩ : ∃ f, m23 44 = f := ⟨_, rfl⟩
        try rw [fm23_44] at po0_m23
        try rw [fm23_44] at po1_m23
        have fm23_48 : m23 48 = f3 := (funext fun k => gm23 48 k rfl).trans fm10_48
        obtain ⟨f25, fm23_50⟩ : ∃ f, m23 50 = f := ⟨_, rfl⟩
        try rw [fm23_50] at po0_m23
        try rw [fm23_50] at po1_m23
        obtain ⟨f26, fm23_51⟩ : ∃ f, m23 51 = f := ⟨_, rfl⟩
        try rw [fm23_51] at po0_m23
        try rw [fm23_51] at po1_m23
        have fm23_9 : m23 9 = F9 := (funext fun k => gm23 9 k rfl).trans fm10_9
        obtain ⟨f27, ef27⟩ : ∃ v, m23 43 5 = v := ⟨_, rfl⟩
        have bf27 := hIm23.fi (c := 43) (k := 5) rfl
        rw [ef27] at bf27
        rw [ef27] at po0_m23
        rw [ef27] at po2_m23
        show zW E (d) 42 28 [(2, 43), (0, a0), (0, a1), (0, i8), (0, i9)] [] m23 Q
        refine zw_7 zr_42_28 rfl ?_
        refine zw_46r (s := 1) zr_42_29 rfl rfl rfl rfl ?_
        refine zw_46r (s := 5) zr_42_32 rfl rfl rfl rfl ?_
        refine zw_4 zr_42_35 rfl ?_
        refine zw_48 (c := 5) (len := 60) zr_42_37 rfl rfl (by omega) (by omega) ?_
        intro x28 ex28
        have bx28 := ib_5 hIm23 (k := (i9).toNat) (by omega)
        rw [← ex28] at bx28
        have qx28 : x28 = F5 (i9).toNat := by rw [← fm23_5]; exact ex28
        clear ex28
        refine zw_3 zr_42_38 rfl ?_
        refine zw_41_4 zr_42_39 ?_ ?_
        · intro h29
          refine zw_15 (c := 1) (L' := [(2, 43), (0, a0), (0, a1), (0, i8), (0, (i9 + 1))]) zr_42_49 rfl (by decide) (by omega) rfl ?_
          refine zw_42 zr_42_52 ?_
          exact zw_less (L := [(2, 43), (0, a0), (0, a1), (0, i8), (0, (i9 + 1))]) ⟨Or.inr rfl, Or.inr rfl, Or.inr rfl, Or.inr rfl, Or.inr rfl, trivial⟩ (ihlp10_14 (i8) ((i9 + 1)) (f24) (f25) (f26) m23 hIm23 hFm23  km23_1_1 km23_1_2 km23_45_1 km23_45_8 fm23_5 fm23_6 fm23_7 fm23_8 fm23_10 fm23_11 fm23_44 fm23_48 fm23_50 fm23_51 fm23_9 (by omega) (by omega) (by omega) (by omega) (by first | exact zAn_y hv0lp10_14 po0_m23 (by rfl) (cpy_e po0_m23 (Or.inl ⟨by rw [← qx28]; omega, rfl⟩)) (by omega) | exact zAn_y (x := 0) hv0lp10_14 po0_m23 (by rfl) (cpy_e po0_m23 (Or.inr ⟨by rw [← qx28]; omega, rfl⟩)) (by omega)) (po1_m23) (by omega) (by omega))
        · intro h32
          refine zw_3 zr_42_42 rfl ?_
          refine zw_7 zr_42_43 rfl ?_
          refine zw_46i zr_42_44 ef27 rfl rfl rfl ?_
          refine zw_16 zr_42_47 (by omega) ?_
          refine zw_9 (L' := [(2, 43), (0, a0), (0, a1), (0, (i8 + f27)), (0, i9)]) zr_42_48 (Nat.le_of_ble_eq_true rfl) rfl ?_
          refine zw_15 (c := 1) (L' := [(2, 43), (0, a0), (0, a1), (0, (i8 + f27)), (0, (i9 + 1))]) zr_42_49 rfl (by decide) (by omega) rfl ?_
          refine zw_42 zr_42_52 ?_
          exact zw_less (L := [(2, 43), (0, a0), (0, a1), (0, (i8 + f27)), (0, (i9 + 1))]) ⟨Or.inr rfl, Or.inr rfl, Or.inr rfl, Or.inr rfl, Or.inr rfl, trivial⟩ (ihlp10_14 ((i8 + f27)) ((i9 + 1)) (f24) (f25) (f26) m23 hIm23 hFm23  km23_1_1 km23_1_2 km23_45_1 km23_45_8 fm23_5 fm23_6 fm23_7 fm23_8 fm23_10 fm23_11 fm23_44 fm23_48 fm23_50 fm23_51 fm23_9 (by omega) (by omega) (by omega) (by omega) (by first | exact zAn_y hv0lp10_14 po0_m23 (by rfl) (cpy_e po0_m23 (Or.inl ⟨by rw [← qx28]; omega, rfl⟩)) (by omega) | exact zAn_y (x := 0) hv0lp10_14 po0_m23 (by rfl) (cpy_e po0_m23 (Or.inr ⟨by rw [← qx28]; omega, rfl⟩)) (by omega)) (po1_m23) (by omega) (by omega))
  exact lp10_14 _ (0) (0) (f2) (f4) (f5) m1 hIm1 hFm1  km1_1_1 km1_1_2 ef6 ef7 fm1_5 fm1_6 fm1_7 fm1_8 fm1_10 fm1_11 fm1_44 fm1_48 fm1_50 fm1_51 fm1_9 (by omega) (by omega) (by omega) (by omega) (zAn_0 po1_m1 (by omega)) (zPb_0 po1_m1 (by have z := ib_9 hI0 (k := a0.toNat) (by omega); rw [hG9] at z; omega)) (by omega) (Nat.lt_succ_self _)

abbrev W_110 : List (Nat × Nat) := [(43, 5), (44, 1000), (45, 1), (45, 5), (45, 6), (45, 7), (45, 8), (45, 9), (46, 1000), (47, 1000), (48, 1000), (49, 1000), (50, 1000), (51, 1000)]
set_option maxHeartbeats 8000000 in
theorem th_110 {E : zE} {d : Nat} {m0 : zM} {a0 : Int} {a1 : Int} {g0 : Int} {g1 : Int} {F5 : Nat → Int} {F6 : Nat → Int} {F7 : Nat → Int} {F8 : Nat → Int} {F10 : Nat → Int} {F11 : Nat → Int} {F44 : Nat → Int} {F48 : Nat → Int} {F50 : Nat → Int} {F51 : Nat → Int} {F9 : Nat → Int} (hd : 96 ≤ d) (hI0 : zInv m0) (hg0 : m0 1 1 = g0) (hg1 : m0 1 2 = g1) (hG5 : m0 5 = F5) (hG6 : m0 6 = F6) (hG7 : m0 7 = F7) (hG8 : m0 8 = F8) (hG10 : m0 10 = F10) (hG11 : m0 11 = F11) (hG44 : m0 44 = F44) (hG48 : m0 48 = F48) (hG50 : m0 50 = F50) (hG51 : m0 51 = F51) (hG9 : m0 9 = F9) (ha0 : (-2147483648) ≤ a0 ∧ a0 ≤ 2147483647) (ha1 : (-2147483648) ≤ a1 ∧ a1 ≤ 2147483647) : zC E d 110 [(2, 0), (0, a0), (0, a1)] m0 (fun v m' => ∃ r : Int, v = (0, r) ∧ (-100000) ≤ r ∧ r ≤ 60000 ∧ zInv m' ∧ zFr W_110 m0 m' ∧ ((r = -100000 ∧ (a0 < 0 ∨ 3 < a0 ∨ a1 < 0 ∨ 99 < a1)) ∨ ((0 ≤ a0 ∧ a0 ≤ 3 ∧ 0 ≤ a1 ∧ a1 ≤ 99) ∧ ∃ S, zAn (pst (chc F11 F10 a0) F6 F7 F8 F5 (zbt g1)) (fun _ => 1) (cpy (chc F11 F10 a0) F6 F7 F8 F5 (zbt g1) a1) (F9 a0.toNat) S r g0))) := by
  have hF0 : zFr W_110 m0 m0 := zFr.rfl
  have bg0 := ib_1_1 hI0
  rw [hg0] at bg0
  have bg1 := ib_1_2 hI0
  rw [hg1] at bg1
  generalize hQ : (fun (v : zV) (m' : zM) => ∃ r : Int, v = (0, r) ∧ (-100000) ≤ r ∧ r ≤ 60000 ∧ zInv m' ∧ zFr W_110 m0 m' ∧ ((r = -100000 ∧ (a0 < 0 ∨ 3 < a0 ∨ a1 < 0 ∨ 99 < a1)) ∨ ((0 ≤ a0 ∧ a0 ≤ 3 ∧ 0 ≤ a1 ∧ a1 ≤ 99) ∧ ∃ S, zAn (pst (chc F11 F10 a0) F6 F7 F8 F5 (zbt g1)) (fun _ => 1) (cpy (chc F11 F10 a0) F6 F7 F8 F5 (zbt g1) a1) (F9 a0.toNat) S r g0))) = Q
  show zW E d 110 0 [(2, 0), (0, a0), (0, a1)] [] m0 Q
  refine zw_3 zr_110_0 rfl ?_
  refine zw_C zr_110_1 (Or.inr rfl) zm_104 rfl rfl ⟨Nat.le_of_ble_eq_true rfl, Nat.le_of_ble_eq_true rfl, Nat.le_of_ble_eq_true rfl, rfl, by decide⟩ (by omega) (P := (fun v m' => zW E (d) 110 4 [(2, 0), (0, a0), (0, a1)] (if v.1 = 9 then [] else v :: []) m' Q)) ?_ (fun _ _ h => h)
  generalize hQ1 : (fun v m' => zW E (d) 110 4 [(2, 0), (0, a0), (0, a1)] (if v.1 = 9 then [] else v :: []) m' Q) = Q1
  show zW E (d - 1) 104 0 [(0, a0)] [] m0 Q1
  refine zw_3 zr_104_0 rfl ?_
  refine zw_push zr_104_1 ?_
  refine zw_push zr_104_2 ?_
  refine zw_C zr_104_3 (Or.inr rfl) zm_100 rfl rfl ⟨Nat.le_of_ble_eq_true rfl, Nat.le_of_ble_eq_true rfl, Nat.le_of_ble_eq_true rfl, rfl, by decide⟩ (by omega) (P := (fun v m' => zW E (d - 1) 104 6 [(0, a0)] (if v.1 = 9 then [] else v :: []) m' Q1)) ?_ (fun _ _ h => h)
  generalize hQ2 : (fun v m' => zW E (d - 1) 104 6 [(0, a0)] (if v.1 = 9 then [] else v :: []) m' Q1) = Q2
  show zW E (d - 1 - 1) 100 0 [(0, a0), (0, 0), (0, 3)] [] m0 Q2
  refine zw_3 zr_100_0 rfl ?_
  refine zw_3 zr_100_1 rfl ?_
  refine zw_41_0 zr_100_2 ?_ ?_
  · intro h1
    refine zw_push zr_100_14 ?_
    refine zw_R zr_100_15 (by decide) zm_100 (v := (0, 0)) (zRetB (by omega)) ?_
    rw [← hQ2]
    show zW E (d - 1) 104 6 [(0, a0)] [(0, 0)] m0 Q1
    refine zw_R zr_104_6 (by decide) zm_104 (v := (0, 0)) (zRetB (by omega)) ?_
    rw [← hQ1]
    show zW E (d) 110 4 [(2, 0), (0, a0), (0, a1)] [(0, 0)] m0 Q
    refine zw_40_1 zr_110_4 ?_ ?_
    · intro h2
      refine zw_push zr_110_14 ?_
      refine zw_R zr_110_16 (by decide) zm_110 (v := (0, (-100000))) rfl ?_
      rw [← hQ]; exact ⟨_, rfl, by omega, by omega, hI0, hF0, by first | exact Or.inr ⟨by omega, zz⟩ | exact Or.inl ⟨rfl, by omega⟩⟩
    · intro h4; omega
  · intro h5
    refine zw_3 zr_100_5 rfl ?_
    refine zw_3 zr_100_6 rfl ?_
    refine zw_41_2 zr_100_7 ?_ ?_
    · intro h6
      refine zw_push zr_100_14 ?_
      refine zw_R zr_100_15 (by decide) zm_100 (v := (0, 0)) (zRetB (by omega)) ?_
      rw [← hQ2]
      show zW E (d - 1) 104 6 [(0, a0)] [(0, 0)] m0 Q1
      refine zw_R zr_104_6 (by decide) zm_104 (v := (0, 0)) (zRetB (by omega)) ?_
      rw [← hQ1]
      show zW E (d) 110 4 [(2, 0), (0, a0), (0, a1)] [(0, 0)] m0 Q
      refine zw_40_1 zr_110_4 ?_ ?_
      · intro h7
        refine zw_push zr_110_14 ?_
        refine zw_R zr_110_16 (by decide) zm_110 (v := (0, (-100000))) rfl ?_
        rw [← hQ]; exact ⟨_, rfl, by omega, by omega, hI0, hF0, by first | exact Or.inr ⟨by omega, zz⟩ | exact Or.inl ⟨rfl, by omega⟩⟩
      · intro h9; omega
    · intro h10
      refine zw_push zr_100_10 ?_
      refine zw_42 zr_100_11 ?_
      refine zw_R zr_100_15 (by decide) zm_100 (v := (0, 1)) (zRetB (by omega)) ?_
      rw [← hQ2]
      show zW E (d - 1) 104 6 [(0, a0)] [(0, 1)] m0 Q1
      refine zw_R zr_104_6 (by decide) zm_104 (v := (0, 1)) (zRetB (by omega)) ?_
      rw [← hQ1]
      show zW E (d) 110 4 [(2, 0), (0, a0), (0, a1)] [(0, 1)] m0 Q
      refine zw_40_1 zr_110_4 ?_ ?_
      · intro h11; omega
      · intro h12
        refine zw_3 zr_110_7 rfl ?_
        refine zw_C zr_110_8 (Or.inr rfl) zm_101 rfl rfl ⟨Nat.le_of_ble_eq_true rfl, Nat.le_of_ble_eq_true rfl, Nat.le_of_ble_eq_true rfl, rfl, by decide⟩ (by omega) (P := (fun v m' => zW E (d) 110 11 [(2, 0), (0, a0), (0, a1)] (if v.1 = 9 then [] else v :: []) m' Q)) ?_ (fun _ _ h => h)
        generalize hQ1 : (fun v m' => zW E (d) 110 11 [(2, 0), (0, a0), (0, a1)] (if v.1 = 9 then [] else v :: []) m' Q) = Q1
        show zW E (d - 1) 101 0 [(0, a1)] [] m0 Q1
        refine zw_3 zr_101_0 rfl ?_
        refine zw_push zr_101_1 ?_
        refine zw_push zr_101_2 ?_
        refine zw_C zr_101_4 (Or.inr rfl) zm_100 rfl rfl ⟨Nat.le_of_ble_eq_true rfl, Nat.le_of_ble_eq_true rfl, Nat.le_of_ble_eq_true rfl, rfl, by decide⟩ (by omega) (P := (fun v m' => zW E (d - 1) 101 7 [(0, a1)] (if v.1 = 9 then [] else v :: []) m' Q1)) ?_ (fun _ _ h => h)
        generalize hQ2 : (fun v m' => zW E (d - 1) 101 7 [(0, a1)] (if v.1 = 9 then [] else v :: []) m' Q1) = Q2
        show zW E (d - 1 - 1) 100 0 [(0, a1), (0, 0), (0, 99)] [] m0 Q2
        refine zw_3 zr_100_0 rfl ?_
        refine zw_3 zr_100_1 rfl ?_
        refine zw_41_0 zr_100_2 ?_ ?_
        · intro h13
          refine zw_push zr_100_14 ?_
          refine zw_R zr_100_15 (by decide) zm_100 (v := (0, 0)) (zRetB (by omega)) ?_
          rw [← hQ2]
          show zW E (d - 1) 101 7 [(0, a1)] [(0, 0)] m0 Q1
          refine zw_R zr_101_7 (by decide) zm_101 (v := (0, 0)) (zRetB (by omega)) ?_
          rw [← hQ1]
          show zW E (d) 110 11 [(2, 0), (0, a0), (0, a1)] [(0, 0)] m0 Q
          refine zw_40_4 zr_110_11 ?_ ?_
          · intro h14; omega
          · intro h15
            refine zw_push zr_110_14 ?_
            refine zw_R zr_110_16 (by decide) zm_110 (v := (0, (-100000))) rfl ?_
            rw [← hQ]; exact ⟨_, rfl, by omega, by omega, hI0, hF0, by first | exact Or.inr ⟨by omega, zz⟩ | exact Or.inl ⟨rfl, by omega⟩⟩
        · intro h17
          refine zw_3 zr_100_5 rfl ?_
          refine zw_3 zr_100_6 rfl ?_
          refine zw_41_2 zr_100_7 ?_ ?_
          · intro h18
            refine zw_push zr_100_14 ?_
            refine zw_R zr_100_15 (by decide) zm_100 (v := (0, 0)) (zRetB (by omega)) ?_
            rw [← hQ2]
            show zW E (d - 1) 101 7 [(0, a1)] [(0, 0)] m0 Q1
            refine zw_R zr_101_7 (by decide) zm_101 (v := (0, 0)) (zRetB (by omega)) ?_
            rw [← hQ1]
            show zW E (d) 110 11 [(2, 0), (0, a0), (0, a1)] [(0, 0)] m0 Q
            refine zw_40_4 zr_110_11 ?_ ?_
            · intro h19; omega
            · intro h20
              refine zw_push zr_110_14 ?_
              refine zw_R zr_110_16 (by decide) zm_110 (v := (0, (-100000))) rfl ?_
              rw [← hQ]; exact ⟨_, rfl, by omega, by omega, hI0, hF0, by first | exact Or.inr ⟨by omega, zz⟩ | exact Or.inl ⟨rfl, by omega⟩⟩
          · intro h22
            refine zw_push zr_100_10 ?_
            refine zw_42 zr_100_11 ?_
            refine zw_R zr_100_15 (by decide) zm_100 (v := (0, 1)) (zRetB (by omega)) ?_
            rw [← hQ2]
            show zW E (d - 1) 101 7 [(0, a1)] [(0, 1)] m0 Q1
            refine zw_R zr_101_7 (by decide) zm_101 (v := (0, 1)) (zRetB (by omega)) ?_
            rw [← hQ1]
            show zW E (d) 110 11 [(2, 0), (0, a0), (0, a1)] [(0, 1)] m0 Q
            refine zw_40_4 zr_110_11 ?_ ?_
            · intro h23
              refine zw_7 zr_110_17 rfl ?_
              refine zw_46r (s := 43) zr_110_18 rfl rfl rfl rfl ?_
              refine zw_3 zr_110_21 rfl ?_
              refine zw_3 zr_110_22 rfl ?_
              refine zw_C zr_110_23 (Or.inl rfl) zm_42 rfl rfl ⟨Nat.le_of_ble_eq_true rfl, Nat.le_of_ble_eq_true rfl, Nat.le_of_ble_eq_true rfl, rfl, by decide⟩ (by omega) (th_42 (d := d - 1) (by omega) hI0 (a0 := a0) (a1 := a1) (g0 := g0) (g1 := g1)  (F5 := F5) (F6 := F6) (F7 := F7) (F8 := F8) (F10 := F10) (F11 := F11) (F44 := F44) (F48 := F48) (F50 := F50) (F51 := F51) (F9 := F9) hg0 hg1 hG5 hG6 hG7 hG8 hG10 hG11 hG44 hG48 hG50 hG51 hG9 (by omega) (by omega) ) ?_
              rintro _ m24 ⟨r25, rfl, hr25a, hr25b, hIm24, gm24, po0_r25⟩
              have hFm24 : zFr W_110 m0 m24 := hF0.trans gm24 rfl
              have km24_1_1 : m24 1 1 = g0 := (gm24 1 1 rfl).trans hg0
              have km24_1_2 : m24 1 2 = g1 := (gm24 1 2 rfl).trans hg1
              have fm24_5 : m24 5 = F5 := (funext fun k => gm24 5 k rfl).trans hG5
              have fm24_6 : m24 6 = F6 := (funext fun k => gm24 6 k rfl).trans hG6
              have fm24_7 : m24 7 = F7 := (funext fun k => gm24 7 k rfl).trans hG7
              have fm24_8 : m24 8 = F8 := (funext fun k => gm24 8 k rfl).trans hG8
              have fm24_10 : m24 10 = F10 := (funext fun k => gm24 10 k rfl).trans hG10
              have fm24_11 : m24 11 = F11 := (funext fun k => gm24 11 k rfl).trans hG11
              obtain ⟨f26, fm24_44⟩ : ∃ f, m24 44 = f := ⟨_, rfl⟩
              obtain ⟨f27, fm24_48⟩ : ∃ f, m24 48 = f := ⟨_, rfl⟩
              obtain ⟨f28, fm24_50⟩ : ∃ f, m24 50 = f := ⟨_, rfl⟩
              obtain ⟨f29, fm24_51⟩ : ∃ f, m24 51 = f := ⟨_, rfl⟩
              have fm24_9 : m24 9 = F9 := (funext fun k => gm24 9 k rfl).trans hG9
              show zW E (d) 110 26 [(2, 0), (0, a0), (0, a1)] [(0, r25)] m24 Q
              refine zw_R zr_110_26 (by decide) zm_110 (v := (0, r25)) rfl ?_
              rw [← hQ]; exact ⟨_, rfl, by omega, by omega, hIm24, hFm24, by first | exact Or.inr ⟨by omega, po0_r25⟩ | exact Or.inl ⟨rfl, by omega⟩⟩
            · intro h31; omega

abbrev W_170 : List (Nat × Nat) := [(69, 5), (69, 6), (69, 7), (69, 9), (69, 11), (69, 13), (69, 17), (69, 18), (73, 1000), (74, 1000), (75, 1000), (76, 1000), (77, 1000), (78, 1000)]
set_option maxHeartbeats 8000000 in
theorem th_170 {E : zE} {d : Nat} {m0 : zM} {a0 : Int} {a1 : Int} {g0 : Int} {F70 : Nat → Int} {F76 : Nat → Int} {F77 : Nat → Int} {F78 : Nat → Int} (hd : 6 ≤ d) (hI0 : zInv m0) (hg0 : m0 70 823 = g0) (hG70 : m0 70 = F70) (hG76 : m0 76 = F76) (hG77 : m0 77 = F77) (hG78 : m0 78 = F78) (ha0 : (-2147483648) ≤ a0 ∧ a0 ≤ 2147483647) (ha1 : (-2147483648) ≤ a1 ∧ a1 ≤ 2147483647) : zC E d 170 [(2, 69), (0, a0), (0, a1)] m0 (fun v m' => ∃ r : Int, v = (0, r) ∧ (-100000) ≤ r ∧ r ≤ 60000 ∧ zInv m' ∧ zFr W_170 m0 m' ∧ ((r = -100000 ∧ (a0 < 0 ∨ 3 < a0 ∨ a1 < 0 ∨ 99 < a1)) ∨ ((0 ≤ a0 ∧ a0 ≤ 3 ∧ 0 ≤ a1 ∧ a1 ≤ 99) ∧ ∃ S, zBn (psr (cht F70 a0) (fun i => F70 (91 + 6 * i)) (fun i => F70 (92 + 6 * i)) (fun i => F70 (93 + 6 * i)) (fun i => F70 (90 + 6 * i)) (fun i => F70 (94 + 6 * i))) (fun _ => 1) (cpr (cht F70 a0) (fun i => F70 (91 + 6 * i)) (fun i => F70 (92 + 6 * i)) (fun i => F70 (93 + 6 * i)) (fun i => F70 (90 + 6 * i)) (fun i => F70 (94 + 6 * i)) a1) (F70 (450 + 52 * a0).toNat) S r g0))) := by
  have hF0 : zFr W_170 m0 m0 := zFr.rfl
  have bg0 : 0 ≤ m0 70 823 ∧ m0 70 823 ≤ 60 := ib_70_meetings hI0 (by omega)
  rw [hg0] at bg0
  generalize hQ : (fun (v : zV) (m' : zM) => ∃ r : Int, v = (0, r) ∧ (-100000) ≤ r ∧ r ≤ 60000 ∧ zInv m' ∧ zFr W_170 m0 m' ∧ ((r = -100000 ∧ (a0 < 0 ∨ 3 < a0 ∨ a1 < 0 ∨ 99 < a1)) ∨ ((0 ≤ a0 ∧ a0 ≤ 3 ∧ 0 ≤ a1 ∧ a1 ≤ 99) ∧ ∃ S, zBn (psr (cht F70 a0) (fun i => F70 (91 + 6 * i)) (fun i => F70 (92 + 6 * i)) (fun i => F70 (93 + 6 * i)) (fun i => F70 (90 + 6 * i)) (fun i => F70 (94 + 6 * i))) (fun _ => 1) (cpr (cht F70 a0) (fun i => F70 (91 + 6 * i)) (fun i => F70 (92 + 6 * i)) (fun i => F70 (93 + 6 * i)) (fun i => F70 (90 + 6 * i)) (fun i => F70 (94 + 6 * i)) a1) (F70 (450 + 52 * a0).toNat) S r g0))) = Q
  show zW E d 170 0 [(2, 69), (0, a0), (0, a1), (9, 0), (9, 0)] [] m0 Q
  refine zw_3 zr_170_0 rfl ?_
  refine zw_C zr_170_1 (Or.inr rfl) zm_148 rfl rfl ⟨Nat.le_of_ble_eq_true rfl, Nat.le_of_ble_eq_true rfl, Nat.le_of_ble_eq_true rfl, rfl, by decide⟩ (by omega) (P := (fun v m' => zW E (d) 170 4 [(2, 69), (0, a0), (0, a1), (9, 0), (9, 0)] (if v.1 = 9 then [] else v :: []) m' Q)) ?_ (fun _ _ h => h)
  generalize hQ1 : (fun v m' => zW E (d) 170 4 [(2, 69), (0, a0), (0, a1), (9, 0), (9, 0)] (if v.1 = 9 then [] else v :: []) m' Q) = Q1
  show zW E (d - 1) 148 0 [(0, a0)] [] m0 Q1
  refine zw_3 zr_148_0 rfl ?_
  refine zw_36 zr_148_1 ?_
  refine zw_push zr_148_2 ?_
  refine zw_push zr_148_3 ?_
  refine zw_C zr_148_6 (Or.inr rfl) zm_140 rfl rfl ⟨Nat.le_of_ble_eq_true rfl, Nat.le_of_ble_eq_true rfl, Nat.le_of_ble_eq_true rfl, rfl, by decide⟩ (by omega) (P := (fun v m' => zW E (d - 1) 148 9 [(0, a0)] (if v.1 = 9 then [] else v :: []) m' Q1)) ?_ (fun _ _ h => h)
  generalize hQ2 : (fun v m' => zW E (d - 1) 148 9 [(0, a0)] (if v.1 = 9 then [] else v :: []) m' Q1) = Q2
  show zW E (d - 1 - 1) 140 0 [(1, a0), (9, 0), (1, 0), (9, 0), (1, 3), (9, 0)] [] m0 Q2
  refine zw_5 zr_140_0 rfl ?_
  refine zw_5 zr_140_1 rfl ?_
  refine zw_39_0 zr_140_2 zr_140_3 ?_ ?_
  · intro h1
    refine zw_push zr_140_17 ?_
    refine zw_R zr_140_18 (by decide) zm_140 (v := (0, 0)) (zRetB (by omega)) ?_
    rw [← hQ2]
    show zW E (d - 1) 148 9 [(0, a0)] [(0, 0)] m0 Q1
    refine zw_R zr_148_9 (by decide) zm_148 (v := (0, 0)) (zRetB (by omega)) ?_
    rw [← hQ1]
    show zW E (d) 170 4 [(2, 69), (0, a0), (0, a1), (9, 0), (9, 0)] [(0, 0)] m0 Q
    refine zw_40_1 zr_170_4 ?_ ?_
    · intro h2
      refine zw_push zr_170_14 ?_
      refine zw_R zr_170_16 (by decide) zm_170 (v := (0, (-100000))) rfl ?_
      rw [← hQ]; exact ⟨_, rfl, by omega, by omega, hI0, hF0, by first | exact Or.inr ⟨by omega, (F76, F77, F78), by have z := zz; rw [show zz = g0 by omega] at z; exact z⟩ | exact Or.inl ⟨rfl, by omega⟩⟩
    · intro h4; omega
  · intro h5
    refine zw_5 zr_140_6 rfl ?_
    refine zw_6 zr_140_7 rfl ?_
    refine zw_39_2 zr_140_9 zr_140_10 ?_ ?_
    · intro h6
      refine zw_push zr_140_17 ?_
      refine zw_R zr_140_18 (by decide) zm_140 (v := (0, 0)) (zRetB (by omega)) ?_
      rw [← hQ2]
      show zW E (d - 1) 148 9 [(0, a0)] [(0, 0)] m0 Q1
      refine zw_R zr_148_9 (by decide) zm_148 (v := (0, 0)) (zRetB (by omega)) ?_
      rw [← hQ1]
      show zW E (d) 170 4 [(2, 69), (0, a0), (0, a1), (9, 0), (9, 0)] [(0, 0)] m0 Q
      refine zw_40_1 zr_170_4 ?_ ?_
      · intro h7
        refine zw_push zr_170_14 ?_
        refine zw_R zr_170_16 (by decide) zm_170 (v := (0, (-100000))) rfl ?_
        rw [← hQ]; exact ⟨_, rfl, by omega, by omega, hI0, hF0, by first | exact Or.inr ⟨by omega, (F76, F77, F78), by have z := zz; rw [show zz = g0 by omega] at z; exact z⟩ | exact Or.inl ⟨rfl, by omega⟩⟩
      · intro h9; omega
    · intro h10
      refine zw_push zr_140_13 ?_
      refine zw_42 zr_140_14 ?_
      refine zw_R zr_140_18 (by decide) zm_140 (v := (0, 1)) (zRetB (by omega)) ?_
      rw [← hQ2]
      show zW E (d - 1) 148 9 [(0, a0)] [(0, 1)] m0 Q1
      refine zw_R zr_148_9 (by decide) zm_148 (v := (0, 1)) (zRetB (by omega)) ?_
      rw [← hQ1]
      show zW E (d) 170 4 [(2, 69), (0, a0), (0, a1), (9, 0), (9, 0)] [(0, 1)] m0 Q
      refine zw_40_1 zr_170_4 ?_ ?_
      · intro h11; omega
      · intro h12
        refine zw_3 zr_170_7 rfl ?_
        refine zw_C zr_170_8 (Or.inr rfl) zm_169 rfl rfl ⟨Nat.le_of_ble_eq_true rfl, Nat.le_of_ble_eq_true rfl, Nat.le_of_ble_eq_true rfl, rfl, by decide⟩ (by omega) (P := (fun v m' => zW E (d) 170 11 [(2, 69), (0, a0), (0, a1), (9, 0), (9, 0)] (if v.1 = 9 then [] else v :: []) m' Q)) ?_ (fun _ _ h => h)
        generalize hQ1 : (fun v m' => zW E (d) 170 11 [(2, 69), (0, a0), (0, a1), (9, 0), (9, 0)] (if v.1 = 9 then [] else v :: []) m' Q) = Q1
        show zW E (d - 1) 169 0 [(0, a1)] [] m0 Q1
        refine zw_3 zr_169_0 rfl ?_
        refine zw_36 zr_169_1 ?_
        refine zw_push zr_169_2 ?_
        refine zw_push zr_169_3 ?_
        refine zw_C zr_169_6 (Or.inr rfl) zm_140 rfl rfl ⟨Nat.le_of_ble_eq_true rfl, Nat.le_of_ble_eq_true rfl, Nat.le_of_ble_eq_true rfl, rfl, by decide⟩ (by omega) (P := (fun v m' => zW E (d - 1) 169 9 [(0, a1)] (if v.1 = 9 then [] else v :: []) m' Q1)) ?_ (fun _ _ h => h)
        generalize hQ2 : (fun v m' => zW E (d - 1) 169 9 [(0, a1)] (if v.1 = 9 then [] else v :: []) m' Q1) = Q2
        show zW E (d - 1 - 1) 140 0 [(1, a1), (9, 0), (1, 0), (9, 0), (1, 99), (9, 0)] [] m0 Q2
        refine zw_5 zr_140_0 rfl ?_
        refine zw_5 zr_140_1 rfl ?_
        refine zw_39_0 zr_140_2 zr_140_3 ?_ ?_
        · intro h13
          refine zw_push zr_140_17 ?_
          refine zw_R zr_140_18 (by decide) zm_140 (v := (0, 0)) (zRetB (by omega)) ?_
          rw [← hQ2]
          show zW E (d - 1) 169 9 [(0, a1)] [(0, 0)] m0 Q1
          refine zw_R zr_169_9 (by decide) zm_169 (v := (0, 0)) (zRetB (by omega)) ?_
          rw [← hQ1]
          show zW E (d) 170 11 [(2, 69), (0, a0), (0, a1), (9, 0), (9, 0)] [(0, 0)] m0 Q
          refine zw_40_4 zr_170_11 ?_ ?_
          · intro h14; omega
          · intro h15
            refine zw_push zr_170_14 ?_
            refine zw_R zr_170_16 (by decide) zm_170 (v := (0, (-100000))) rfl ?_
            rw [← hQ]; exact ⟨_, rfl, by omega, by omega, hI0, hF0, by first | exact Or.inr ⟨by omega, (F76, F77, F78), by have z := zz; rw [show zz = g0 by omega] at z; exact z⟩ | exact Or.inl ⟨rfl, by omega⟩⟩
        · intro h17
          refine zw_5 zr_140_6 rfl ?_
          refine zw_6 zr_140_7 rfl ?_
          refine zw_39_2 zr_140_9 zr_140_10 ?_ ?_
          · intro h18
            refine zw_push zr_140_17 ?_
            refine zw_R zr_140_18 (by decide) zm_140 (v := (0, 0)) (zRetB (by omega)) ?_
            rw [← hQ2]
            show zW E (d - 1) 169 9 [(0, a1)] [(0, 0)] m0 Q1
            refine zw_R zr_169_9 (by decide) zm_169 (v := (0, 0)) (zRetB (by omega)) ?_
            rw [← hQ1]
            show zW E (d) 170 11 [(2, 69), (0, a0), (0, a1), (9, 0), (9, 0)] [(0, 0)] m0 Q
            refine zw_40_4 zr_170_11 ?_ ?_
            · intro h19; omega
            · intro h20
              refine zw_push zr_170_14 ?_
              refine zw_R zr_170_16 (by decide) zm_170 (v := (0, (-100000))) rfl ?_
              rw [← hQ]; exact ⟨_, rfl, by omega, by omega, hI0, hF0, by first | exact Or.inr ⟨by omega, (F76, F77, F78), by have z := zz; rw [show zz = g0 by omega] at z; exact z⟩ | exact Or.inl ⟨rfl, by omega⟩⟩
          · intro h22
            refine zw_push zr_140_13 ?_
            refine zw_42 zr_140_14 ?_
            refine zw_R zr_140_18 (by decide) zm_140 (v := (0, 1)) (zRetB (by omega)) ?_
            rw [← hQ2]
            show zW E (d - 1) 169 9 [(0, a1)] [(0, 1)] m0 Q1
            refine zw_R zr_169_9 (by decide) zm_169 (v := (0, 1)) (zRetB (by omega)) ?_
            rw [← hQ1]
            show zW E (d) 170 11 [(2, 69), (0, a0), (0, a1), (9, 0), (9, 0)] [(0, 1)] m0 Q
            refine zw_40_4 zr_170_11 ?_ ?_
            · intro h23
              refine zw_7 zr_170_17 rfl ?_
              refine zw_3 zr_170_18 rfl ?_
              refine zw_C zr_170_19 (Or.inl rfl) zm_164 rfl rfl ⟨Nat.le_of_ble_eq_true rfl, Nat.le_of_ble_eq_true rfl, Nat.le_of_ble_eq_true rfl, rfl, by decide⟩ (by omega) (th_164 (d := d - 1) (by omega) hI0 (a0 := a0)   (F70 := F70) (F76 := F76) (F77 := F77) (F78 := F78)  hG70 hG76 hG77 hG78 (by omega) ) ?_
              rintro _ m24 ⟨rfl, hIm24, gm24, po0_m24⟩
              have hFm24 : zFr W_170 m0 m24 := hF0.trans gm24 rfl
              have km24_70_823 : m24 70 823 = g0 := (gm24 70 823 rfl).trans hg0
              have fm24_70 : m24 70 = F70 := (funext fun k => gm24 70 k rfl).trans hG70
              obtain ⟨f25, fm24_76⟩ : ∃ f, m24 76 = f := ⟨_, rfl⟩
              try rw [fm24_76] at po0_m24
              obtain ⟨f26, fm24_77⟩ : ∃ f, m24 77 = f := ⟨_, rfl⟩
              try rw [fm24_77] at po0_m24
              obtain ⟨f27, fm24_78⟩ : ∃ f, m24 78 = f := ⟨_, rfl⟩
              try rw [fm24_78] at po0_m24
              show zW E (d) 170 22 [(2, 69), (0, a0), (0, a1), (9, 0), (9, 0)] [] m24 Q
              have hV : 0 ≤ F70 (450 + 52 * a0).toNat ∧ F70 (450 + 52 * a0).toNat ≤ 9999 ∧ (0 : Int) = 0 := by have z := ib_70_s0 hI0 (k := (450 + 52 * a0).toNat) (by omega); rw [hG70] at z; omega
              refine zw_push zr_170_22 ?_
              refine zw_9 (L' := [(2, 69), (0, a0), (0, a1), (0, 0), (9, 0)]) zr_170_23 (Nat.le_of_ble_eq_true rfl) rfl ?_
              refine zw_push zr_170_24 ?_
              refine zw_10 (L' := [(2, 69), (0, a0), (0, a1), (0, 0), (0, 0)]) zr_170_25 (Nat.le_of_ble_eq_true rfl) rfl ?_
              have lp27_35 : ∀ (nlp27_35 : Nat) (i29 i30 : Int) (f32 : Nat → Int) (f33 : Nat → Int) (f34 : Nat → Int) (m31 : zM), zInv m31 → zFr W_170 m0 m31 → m31 70 823 = g0 → m31 70 = F70 → m31 76 = f32 → m31 77 = f33 → m31 78 = f34 → (-60000) ≤ i29 → i29 ≤ 60000 → 0 ≤ i30 → i30 ≤ 60 → (zBn (psr (cht F70 a0) (fun i => F70 (91 + 6 * i)) (fun i => F70 (92 + 6 * i)) (fun i => F70 (93 + 6 * i)) (fun i => F70 (90 + 6 * i)) (fun i => F70 (94 + 6 * i))) (fun _ => 1) (cpr (cht F70 a0) (fun i => F70 (91 + 6 * i)) (fun i => F70 (92 + 6 * i)) (fun i => F70 (93 + 6 * i)) (fun i => F70 (90 + 6 * i)) (fun i => F70 (94 + 6 * i)) a1) (F70 (450 + 52 * a0).toNat) (f32, f33, f34) i29 i30) → (zPb (f32, f33, f34) i30) → (-(1000 * i30) ≤ i29 ∧ i29 ≤ 1000 * i30 ∧ i30 ≤ g0) → (60 - i30).toNat < nlp27_35 → zW E (d) 170 27 [(2, 69), (0, a0), (0, a1), (0, i29), (0, i30)] [] m31 Q := by
                intro nlp27_35
                induction nlp27_35 with
                | zero =>
                  intros
                  exact absurd (by assumption : _ < 0) (Nat.not_lt_zero _)
                | succ nlp27_35 ihlp27_35 =>
                  intro i29 i30 f32 f33 f34 m31 hIm31 hFm31 km31_70_823 fm31_70 fm31_76 fm31_77 fm31_78 li29 ui29 li30 ui30 hv0lp27_35 hv1lp27_35 hv2lp27_35 hmlp27_35
                  refine zw_4 zr_170_27 rfl ?_
                  refine zw_7 zr_170_29 rfl ?_
                  refine zw_C zr_170_30 (Or.inl rfl) zm_142 rfl rfl ⟨Nat.le_of_ble_eq_true rfl, Nat.le_of_ble_eq_true rfl, Nat.le_of_ble_eq_true rfl, rfl, by decide⟩ (by omega) (P := (fun v m' => zW E (d) 170 33 [(2, 69), (0, a0), (0, a1), (0, i29), (0, i30)] (if v.1 = 9 then [(0, i30)] else v :: [(0, i30)]) m' Q)) ?_ (fun _ _ h => h)
                  generalize hQ1 : (fun v m' => zW E (d) 170 33 [(2, 69), (0, a0), (0, a1), (0, i29), (0, i30)] (if v.1 = 9 then [(0, i30)] else v :: [(0, i30)]) m' Q) = Q1
                  show zW E (d - 1) 142 0 [(2, 69)] [] m31 Q1
                  refine zw_7 zr_142_0 rfl ?_
                  refine zw_46r (s := 70) zr_142_1 rfl rfl rfl rfl ?_
                  refine zw_push zr_142_4 ?_
                  refine zw_48k (c := 70) (len := 826) zr_142_7 rfl rfl (by omega) (by omega) (show (823 : Int).toNat = 823 by omega) km31_70_823 ?_
                  refine zw_R zr_142_8 (by decide) zm_142 (v := (0, g0)) rfl ?_
                  rw [← hQ1]
                  show zW E (d) 170 33 [(2, 69), (0, a0), (0, a1), (0, i29), (0, i30)] [(0, g0), (0, i30)] m31 Q
                  refine zw_41_3 zr_170_33 ?_ ?_
                  · intro h37
                    refine zw_3 zr_170_76 rfl ?_
                    refine zw_R zr_170_77 (by decide) zm_170 (v := (0, i29)) rfl ?_
                    rw [← hQ]; exact ⟨_, rfl, by omega, by omega, hIm31, hFm31, by first | exact Or.inr ⟨by omega, (f32, f33, f34), by have z := hv0lp27_35; rw [show i30 = g0 by omega] at z; exact z⟩ | exact Or.inl ⟨rfl, by omega⟩⟩
                  · intro h39
                    refine zw_7 zr_170_36 rfl ?_
                    refine zw_3 zr_170_37 rfl ?_
                    refine zw_4 zr_170_38 rfl ?_
                    refine zw_C zr_170_40 (Or.inl rfl) zm_166 rfl rfl ⟨Nat.le_of_ble_eq_true rfl, Nat.le_of_ble_eq_true rfl, Nat.le_of_ble_eq_true rfl, rfl, by decide⟩ (by omega) (th_166 (d := d - 1) (by omega) hIm31 (a0 := a0) (a1 := i30)  (gN := i30) (F70 := F70) (F76 := f32) (F77 := f33) (F78 := f34)  fm31_70 fm31_76 fm31_77 fm31_78 (by omega) (by omega) (hv1lp27_35) (by omega)) ?_
                    rintro _ m42 ⟨rfl, hIm42, gm42, po0_m42, po1_m42, po2_m42⟩
                    have hFm42 : zFr W_170 m0 m42 := hFm31.trans gm42 rfl
                    have km42_70_823 : m42 70 823 = g0 := (gm42 70 823 rfl).trans km31_70_823
                    have fm42_70 : m42 70 = F70 := (funext fun k => gm42 70 k rfl).trans fm31_70
                    obtain ⟨f43, fm42_76⟩ : ∃ f, m42 76 = f := ⟨_, rfl⟩
                    try rw [fm42_76] at po0_m42
                    try rw [fm42_76] at po1_m42
                    obtain ⟨f44, fm42_77⟩ : ∃ f, m42 77 = f := ⟨_, rfl⟩
                    try rw [fm42_77] at po0_m42
                    try rw [fm42_77] at po1_m42
                    obtain ⟨f45, fm42_78⟩ : ∃ f, m42 78 = f := ⟨_, rfl⟩
                    try rw [fm42_78] at po0_m42
                    try rw [fm42_78] at po1_m42
                    obtain ⟨f46, ef46⟩ : ∃ v, m42 69 17 = v := ⟨_, rfl⟩
                    have bf46 := hIm42.fi (c := 69) (k := 17) rfl
                    rw [ef46] at bf46
                    rw [ef46] at po0_m42
                    rw [ef46] at po2_m42
                    obtain ⟨f47, ef47⟩ : ∃ v, m42 69 18 = v := ⟨_, rfl⟩
                    have bf47 := hIm42.fi (c := 69) (k := 18) rfl
                    rw [ef47] at bf47
                    rw [ef47] at po0_m42
                    rw [ef47] at po2_m42
                    show zW E (d) 170 43 [(2, 69), (0, a0), (0, a1), (0, i29), (0, i30)] [] m42 Q
                    refine zw_3 zr_170_43 rfl ?_
                    refine zw_7 zr_170_44 rfl ?_
                    refine zw_4 zr_170_45 rfl ?_
                    refine zw_push zr_170_47 ?_
                    refine zw_C zr_170_48 (Or.inl rfl) zm_144 rfl rfl ⟨Nat.le_of_ble_eq_true rfl, Nat.le_of_ble_eq_true rfl, Nat.le_of_ble_eq_true rfl, rfl, by decide⟩ (by omega) (P := (fun v m' => zW E (d) 170 51 [(2, 69), (0, a0), (0, a1), (0, i29), (0, i30)] (if v.1 = 9 then [(0, i29)] else v :: [(0, i29)]) m' Q)) ?_ (fun _ _ h => h)
                    generalize hQ1 : (fun v m' => zW E (d) 170 51 [(2, 69), (0, a0), (0, a1), (0, i29), (0, i30)] (if v.1 = 9 then [(0, i29)] else v :: [(0, i29)]) m' Q) = Q1
                    show zW E (d - 1) 144 0 [(2, 69), (0, i30), (0, 0)] [] m42 Q1
                    refine zw_7 zr_144_0 rfl ?_
                    refine zw_46r (s := 70) zr_144_1 rfl rfl rfl rfl ?_
                    refine zw_push zr_144_4 ?_
                    refine zw_push zr_144_6 ?_
                    refine zw_3 zr_144_8 rfl ?_
                    refine zw_18 zr_144_9 (by omega) ?_
                    refine zw_16 zr_144_10 (by omega) ?_
                    refine zw_3 zr_144_11 rfl ?_
                    refine zw_16 zr_144_12 (by omega) ?_
                    refine zw_48 (c := 70) (len := 826) zr_144_13 rfl rfl (by omega) (by omega) ?_
                    intro x48 ex48
                    have bx48 := ib_70_m0 hIm42 (k := (((90 + (6 * i30)) + 0)).toNat) (by omega)
                    rw [← ex48] at bx48
                    have qx48 : x48 = F70 (((90 + (6 * i30)) + 0)).toNat := by rw [← fm42_70]; exact ex48
                    clear ex48
                    refine zw_R zr_144_14 (by decide) zm_144 (v := (0, x48)) rfl ?_
                    rw [← hQ1]
                    show zW E (d) 170 51 [(2, 69), (0, a0), (0, a1), (0, i29), (0, i30)] [(0, x48), (0, i29)] m42 Q
                    refine zw_3 zr_170_51 rfl ?_
                    have hY : x48 = F70 (90 + 6 * (i30).toNat) := qx48.trans (congrArg F70 (by omega))
                    refine zw_41_4 zr_170_52 ?_ ?_
                    · intro h50
                      refine zw_push zr_170_67 ?_
                      refine zw_16 zr_170_68 (by omega) ?_
                      refine zw_9 (L' := [(2, 69), (0, a0), (0, a1), (0, (i29 + 0)), (0, i30)]) zr_170_69 (Nat.le_of_ble_eq_true rfl) rfl ?_
                      refine zw_15 (c := 1) (L' := [(2, 69), (0, a0), (0, a1), (0, (i29 + 0)), (0, (i30 + 1))]) zr_170_70 rfl (by decide) (by omega) rfl ?_
                      refine zw_42 zr_170_73 ?_
                      exact zw_less (L := [(2, 69), (0, a0), (0, a1), (0, (i29 + 0)), (0, (i30 + 1))]) ⟨Or.inr rfl, Or.inr rfl, Or.inr rfl, Or.inr rfl, Or.inr rfl, trivial⟩ (ihlp27_35 ((i29 + 0)) ((i30 + 1)) (f43) (f44) (f45) m42 hIm42 hFm42  km42_70_823 fm42_70 fm42_76 fm42_77 fm42_78 (by omega) (by omega) (by omega) (by omega) (by first | exact zBn_y hv0lp27_35 po0_m42 (by rfl) (cpr_e po0_m42 (Or.inl ⟨hY.symm.trans (by omega), rfl⟩)) (by omega) | exact zBn_y (x := 0) hv0lp27_35 po0_m42 (by rfl) (cpr_e po0_m42 (Or.inr ⟨fun z => by have z2 := hY.trans z; omega, rfl⟩)) (by omega)) (po1_m42) (by omega) (by omega))
                    · intro h53
                      refine zw_7 zr_170_55 rfl ?_
                      refine zw_46i zr_170_56 ef46 rfl rfl rfl ?_
                      refine zw_7 zr_170_59 rfl ?_
                      refine zw_46i zr_170_60 ef47 rfl rfl rfl ?_
                      refine zw_16 zr_170_63 (by omega) ?_
                      refine zw_42 zr_170_64 ?_
                      refine zw_16 zr_170_68 (by omega) ?_
                      refine zw_9 (L' := [(2, 69), (0, a0), (0, a1), (0, (i29 + (f46 + f47))), (0, i30)]) zr_170_69 (Nat.le_of_ble_eq_true rfl) rfl ?_
                      refine zw_15 (c := 1) (L' := [(2, 69), (0, a0), (0, a1), (0, (i29 + (f46 + f47))), (0, (i30 + 1))]) zr_170_70 rfl (by decide) (by omega) rfl ?_
                      refine zw_42 zr_170_73 ?_
                      exact zw_less (L := [(2, 69), (0, a0), (0, a1), (0, (i29 + (f46 + f47))), (0, (i30 + 1))]) ⟨Or.inr rfl, Or.inr rfl, Or.inr rfl, Or.inr rfl, Or.inr rfl, trivial⟩ (ihlp27_35 ((i29 + (f46 + f47))) ((i30 + 1)) (f43) (f44) (f45) m42 hIm42 hFm42  km42_70_823 fm42_70 fm42_76 fm42_77 fm42_78 (by omega) (by omega) (by omega) (by omega) (by first | exact zBn_y hv0lp27_35 po0_m42 (by rfl) (cpr_e po0_m42 (Or.inl ⟨hY.symm.trans (by omega), rfl⟩)) (by omega) | exact zBn_y (x := 0) hv0lp27_35 po0_m42 (by rfl) (cpr_e po0_m42 (Or.inr ⟨fun z => by have z2 := hY.trans z; omega, rfl⟩)) (by omega)) (po1_m42) (by omega) (by omega))
              exact lp27_35 _ (0) (0) (f25) (f26) (f27) m24 hIm24 hFm24  km24_70_823 fm24_70 fm24_76 fm24_77 fm24_78 (by omega) (by omega) (by omega) (by omega) (zBn_0 po0_m24 (by omega)) (zPb_r0 po0_m24 hV) (by omega) (Nat.lt_succ_self _)
            · intro h58; omega

set_option maxHeartbeats 8000000 in
theorem th_55 {E : zE} {d : Nat} {m0 : zM} {a0 : Int} (hd : 2 ≤ d) (hI0 : zInv m0) (ha0 : 0 ≤ a0 ∧ a0 ≤ 99) : zC E d 55 [(2, 1), (0, a0)] m0 (fun v m' => ∃ r : Int, v = (0, r) ∧ (-2147483648) ≤ r ∧ r ≤ 2147483647 ∧ m0 = m') := by
  generalize hQ : (fun (v : zV) (m' : zM) => ∃ r : Int, v = (0, r) ∧ (-2147483648) ≤ r ∧ r ≤ 2147483647 ∧ m0 = m') = Q
  show zW E d 55 0 [(2, 1), (0, a0), (9, 0), (9, 0)] [] m0 Q
  refine zw_push zr_55_0 ?_
  refine zw_9 (L' := [(2, 1), (0, a0), (0, 0), (9, 0)]) zr_55_1 (Nat.le_of_ble_eq_true rfl) rfl ?_
  refine zw_push zr_55_2 ?_
  refine zw_9 (L' := [(2, 1), (0, a0), (0, 0), (0, 0)]) zr_55_3 (Nat.le_of_ble_eq_true rfl) rfl ?_
  have lp4_3 : ∀ (nlp4_3 : Nat) (i1 i2 : Int), (-2147483648) ≤ i1 → i1 ≤ 2147483647 → 0 ≤ i2 → i2 ≤ 60 → (60 - i2).toNat < nlp4_3 → zW E (d) 55 4 [(2, 1), (0, a0), (0, i1), (0, i2)] [] m0 Q := by
    intro nlp4_3
    induction nlp4_3 with
    | zero =>
      intros
      exact absurd (by assumption : _ < 0) (Nat.not_lt_zero _)
    | succ nlp4_3 ihlp4_3 =>
      intro i1 i2 li1 ui1 li2 ui2 hmlp4_3
      refine zw_3 zr_55_4 rfl ?_
      refine zw_7 zr_55_5 rfl ?_
      obtain ⟨f5, ef5⟩ : ∃ v, m0 1 1 = v := ⟨_, rfl⟩
      have bf5 := ib_1_1 hI0
      rw [ef5] at bf5
      refine zw_46i zr_55_6 ef5 rfl rfl rfl ?_
      refine zw_41_3 zr_55_9 ?_ ?_
      · intro h6
        refine zw_3 zr_55_36 rfl ?_
        refine zw_R zr_55_37 (by decide) zm_55 (v := (0, i1)) rfl ?_
        rw [← hQ]; exact ⟨_, rfl, by omega, by omega, rfl⟩
      · intro h7
        refine zw_7 zr_55_12 rfl ?_
        refine zw_46r (s := 5) zr_55_13 rfl rfl rfl rfl ?_
        refine zw_3 zr_55_16 rfl ?_
        refine zw_48 (c := 5) (len := 60) zr_55_17 rfl rfl (by omega) (by omega) ?_
        intro x8 ex8
        have bx8 := ib_5 hI0 (k := (i2).toNat) (by omega)
        rw [← ex8] at bx8
        clear ex8
        refine zw_3 zr_55_18 rfl ?_
        refine zw_41_4 zr_55_19 ?_ ?_
        · intro h9
          refine zw_15 (c := 1) (L' := [(2, 1), (0, a0), (0, i1), (0, (i2 + 1))]) zr_55_30 rfl (by decide) (by omega) rfl ?_
          refine zw_42 zr_55_33 ?_
          exact zw_less (L := [(2, 1), (0, a0), (0, i1), (0, (i2 + 1))]) ⟨Or.inr rfl, Or.inr rfl, Or.inr rfl, Or.inr rfl, trivial⟩ (ihlp4_3 (i1) ((i2 + 1))  (by omega) (by omega) (by omega) (by omega)  (by omega))
        · intro h10
          refine zw_3 zr_55_22 rfl ?_
          refine zw_7 zr_55_23 rfl ?_
          refine zw_3 zr_55_24 rfl ?_
          refine zw_C zr_55_25 (Or.inl rfl) zm_27 rfl rfl ⟨Nat.le_of_ble_eq_true rfl, Nat.le_of_ble_eq_true rfl, Nat.le_of_ble_eq_true rfl, rfl, by decide⟩ (by omega) (P := (fun v m' => zW E (d) 55 28 [(2, 1), (0, a0), (0, i1), (0, i2)] (if v.1 = 9 then [(0, i1)] else v :: [(0, i1)]) m' Q)) ?_ (fun _ _ h => h)
          generalize hQ1 : (fun v m' => zW E (d) 55 28 [(2, 1), (0, a0), (0, i1), (0, i2)] (if v.1 = 9 then [(0, i1)] else v :: [(0, i1)]) m' Q) = Q1
          show zW E (d - 1) 27 0 [(2, 1), (0, i2)] [] m0 Q1
          refine zw_push zr_27_0 ?_
          refine zw_7 zr_27_1 rfl ?_
          refine zw_46r (s := 6) zr_27_2 rfl rfl rfl rfl ?_
          refine zw_3 zr_27_5 rfl ?_
          refine zw_48 (c := 6) (len := 60) zr_27_6 rfl rfl (by omega) (by omega) ?_
          intro x11 ex11
          have bx11 := ib_6 hI0 (k := (i2).toNat) (by omega)
          rw [← ex11] at bx11
          clear ex11
          refine zw_24h zr_27_7 ?_
          intro x12 hx12a hx12b
          refine zw_push zr_27_8 ?_
          refine zw_7 zr_27_9 rfl ?_
          refine zw_46r (s := 7) zr_27_10 rfl rfl rfl rfl ?_
          refine zw_3 zr_27_13 rfl ?_
          refine zw_48 (c := 7) (len := 60) zr_27_14 rfl rfl (by omega) (by omega) ?_
          intro x13 ex13
          have bx13 := ib_7 hI0 (k := (i2).toNat) (by omega)
          rw [← ex13] at bx13
          clear ex13
          refine zw_24h zr_27_15 ?_
          intro x14 hx14a hx14b
          refine zw_22h zr_27_16 ?_
          intro x15 hx15a hx15b
          refine zw_R zr_27_17 (by decide) zm_27 (v := (0, x15)) rfl ?_
          rw [← hQ1]
          show zW E (d) 55 28 [(2, 1), (0, a0), (0, i1), (0, i2)] [(0, x15), (0, i1)] m0 Q
          refine zw_22h zr_55_28 ?_
          intro x16 hx16a hx16b
          refine zw_9 (L' := [(2, 1), (0, a0), (0, x16), (0, i2)]) zr_55_29 (Nat.le_of_ble_eq_true rfl) rfl ?_
          refine zw_15 (c := 1) (L' := [(2, 1), (0, a0), (0, x16), (0, (i2 + 1))]) zr_55_30 rfl (by decide) (by omega) rfl ?_
          refine zw_42 zr_55_33 ?_
          exact zw_less (L := [(2, 1), (0, a0), (0, x16), (0, (i2 + 1))]) ⟨Or.inr rfl, Or.inr rfl, Or.inr rfl, Or.inr rfl, trivial⟩ (ihlp4_3 (x16) ((i2 + 1))  (by omega) (by omega) (by omega) (by omega)  (by omega))
  exact lp4_3 _ (0) (0)  (by omega) (by omega) (by omega) (by omega)  (Nat.lt_succ_self _)

set_option maxHeartbeats 8000000 in
theorem th_30 {E : zE} {d : Nat} {m0 : zM} {a0 : Int} (hd : 1 ≤ d) (hI0 : zInv m0) (ha0 : (-2147483648) ≤ a0 ∧ a0 ≤ 2147483647) : zC E d 30 [(2, 43), (0, a0)] m0 (fun v m' => ∃ r : Int, v = (0, r) ∧ (-2147483648) ≤ r ∧ r ≤ 2147483647 ∧ m0 = m') := by
  generalize hQ : (fun (v : zV) (m' : zM) => ∃ r : Int, v = (0, r) ∧ (-2147483648) ≤ r ∧ r ≤ 2147483647 ∧ m0 = m') = Q
  show zW E d 30 0 [(2, 43), (0, a0), (9, 0), (9, 0)] [] m0 Q
  refine zw_push zr_30_0 ?_
  refine zw_9 (L' := [(2, 43), (0, a0), (0, 0), (9, 0)]) zr_30_1 (Nat.le_of_ble_eq_true rfl) rfl ?_
  refine zw_push zr_30_2 ?_
  refine zw_9 (L' := [(2, 43), (0, a0), (0, 0), (0, 0)]) zr_30_3 (Nat.le_of_ble_eq_true rfl) rfl ?_
  have lp4_3 : ∀ (nlp4_3 : Nat) (i1 i2 : Int), (-2147483648) ≤ i1 → i1 ≤ 2147483647 → 0 ≤ i2 → i2 ≤ 10 → (10 - i2).toNat < nlp4_3 → zW E (d) 30 4 [(2, 43), (0, a0), (0, i1), (0, i2)] [] m0 Q := by
    intro nlp4_3
    induction nlp4_3 with
    | zero =>
      intros
      exact absurd (by assumption : _ < 0) (Nat.not_lt_zero _)
    | succ nlp4_3 ihlp4_3 =>
      intro i1 i2 li1 ui1 li2 ui2 hmlp4_3
      refine zw_3 zr_30_4 rfl ?_
      refine zw_7 zr_30_5 rfl ?_
      refine zw_46r (s := 1) zr_30_6 rfl rfl rfl rfl ?_
      obtain ⟨f5, ef5⟩ : ∃ v, m0 1 0 = v := ⟨_, rfl⟩
      have bf5 := ib_1_0 hI0
      rw [ef5] at bf5
      refine zw_46i zr_30_9 ef5 rfl rfl rfl ?_
      refine zw_41_3 zr_30_12 ?_ ?_
      · intro h6
        refine zw_3 zr_30_38 rfl ?_
        refine zw_R zr_30_39 (by decide) zm_30 (v := (0, i1)) rfl ?_
        rw [← hQ]; exact ⟨_, rfl, by omega, by omega, rfl⟩
      · intro h7
        refine zw_3 zr_30_15 rfl ?_
        refine zw_3 zr_30_16 rfl ?_
        refine zw_25h zr_30_17 ?_
        intro x8 hx8a hx8b
        refine zw_push zr_30_18 ?_
        refine zw_21m zr_30_19 (by omega) (by omega) ?_
        intro x9 hx9a hx9b
        refine zw_40_1 zr_30_20 ?_ ?_
        · intro h10
          refine zw_15 (c := 1) (L' := [(2, 43), (0, a0), (0, i1), (0, (i2 + 1))]) zr_30_32 rfl (by decide) (by omega) rfl ?_
          refine zw_42 zr_30_35 ?_
          exact zw_less (L := [(2, 43), (0, a0), (0, i1), (0, (i2 + 1))]) ⟨Or.inr rfl, Or.inr rfl, Or.inr rfl, Or.inr rfl, trivial⟩ (ihlp4_3 (i1) ((i2 + 1))  (by omega) (by omega) (by omega) (by omega)  (by omega))
        · intro h11
          refine zw_3 zr_30_23 rfl ?_
          refine zw_7 zr_30_24 rfl ?_
          refine zw_46r (s := 44) zr_30_25 rfl rfl rfl rfl ?_
          refine zw_3 zr_30_28 rfl ?_
          refine zw_48 (c := 44) (len := 10) zr_30_29 rfl rfl (by omega) (by omega) ?_
          intro x12 ex12
          have bx12 := hI0.ra (c := 44) (len := 10) (k := (i2).toNat) rfl (by omega)
          rw [← ex12] at bx12
          clear ex12
          refine zw_16h zr_30_30 ?_
          intro x13 hx13a hx13b
          refine zw_9 (L' := [(2, 43), (0, a0), (0, x13), (0, i2)]) zr_30_31 (Nat.le_of_ble_eq_true rfl) rfl ?_
          refine zw_15 (c := 1) (L' := [(2, 43), (0, a0), (0, x13), (0, (i2 + 1))]) zr_30_32 rfl (by decide) (by omega) rfl ?_
          refine zw_42 zr_30_35 ?_
          exact zw_less (L := [(2, 43), (0, a0), (0, x13), (0, (i2 + 1))]) ⟨Or.inr rfl, Or.inr rfl, Or.inr rfl, Or.inr rfl, trivial⟩ (ihlp4_3 (x13) ((i2 + 1))  (by omega) (by omega) (by omega) (by omega)  (by omega))
  exact lp4_3 _ (0) (0)  (by omega) (by omega) (by omega) (by omega)  (Nat.lt_succ_self _)

abbrev W_43 : List (Nat × Nat) := [(43, 5), (44, 1000), (45, 1), (45, 5), (45, 6), (45, 7), (45, 8), (45, 9), (46, 1000), (47, 1000), (48, 1000), (49, 1000), (50, 1000), (51, 1000)]
set_option maxHeartbeats 8000000 in
theorem th_43 {E : zE} {d : Nat} {m0 : zM} {a0 : Int} {a1 : Int} {a2 : Int} {a3 : Int} {g0 : Int} {g1 : Int} {F5 : Nat → Int} {F6 : Nat → Int} {F7 : Nat → Int} {F8 : Nat → Int} {F10 : Nat → Int} {F11 : Nat → Int} {F44 : Nat → Int} {F48 : Nat → Int} {F50 : Nat → Int} {F51 : Nat → Int} {F9 : Nat → Int} (hd : 95 ≤ d) (hI0 : zInv m0) (hg0 : m0 1 1 = g0) (hg1 : m0 1 2 = g1) (hG5 : m0 5 = F5) (hG6 : m0 6 = F6) (hG7 : m0 7 = F7) (hG8 : m0 8 = F8) (hG10 : m0 10 = F10) (hG11 : m0 11 = F11) (hG44 : m0 44 = F44) (hG48 : m0 48 = F48) (hG50 : m0 50 = F50) (hG51 : m0 51 = F51) (hG9 : m0 9 = F9) (ha0 : 0 ≤ a0 ∧ a0 ≤ 3) (ha1 : 0 ≤ a1 ∧ a1 ≤ 98) (ha2 : 1 ≤ a2 ∧ a2 ≤ 99) (ha3 : (-2147483648) ≤ a3 ∧ a3 ≤ 2147483647) : zC E d 43 [(2, 43), (0, a0), (0, a1), (0, a2), (0, a3)] m0 (fun v m' => ∃ r : Int, v = (0, r) ∧ (-2147483648) ≤ r ∧ r ≤ 2147483647 ∧ zInv m' ∧ zFr W_43 m0 m') := by
  have hF0 : zFr W_43 m0 m0 := zFr.rfl
  have bg0 := ib_1_1 hI0
  rw [hg0] at bg0
  have bg1 := ib_1_2 hI0
  rw [hg1] at bg1
  generalize hQ : (fun (v : zV) (m' : zM) => ∃ r : Int, v = (0, r) ∧ (-2147483648) ≤ r ∧ r ≤ 2147483647 ∧ zInv m' ∧ zFr W_43 m0 m') = Q
  show zW E d 43 0 [(2, 43), (0, a0), (0, a1), (0, a2), (0, a3), (9, 0), (9, 0)] [] m0 Q
  refine zw_7 zr_43_0 rfl ?_
  refine zw_3 zr_43_1 rfl ?_
  refine zw_C zr_43_2 (Or.inl rfl) zm_16 rfl rfl ⟨Nat.le_of_ble_eq_true rfl, Nat.le_of_ble_eq_true rfl, Nat.le_of_ble_eq_true rfl, rfl, by decide⟩ (by omega) (th_16 (d := d - 1) (by omega) hI0 (a0 := a0)   (F9 := F9) (F10 := F10) (F11 := F11) (F44 := F44) (F48 := F48) (F50 := F50) (F51 := F51)  hG9 hG10 hG11 hG44 hG48 hG50 hG51 (by omega) ) ?_
  rintro _ m1 ⟨rfl, hIm1, gm1, po0_m1, po1_m1⟩
  have hFm1 : zFr W_43 m0 m1 := hF0.trans gm1 rfl
  have km1_1_1 : m1 1 1 = g0 := (gm1 1 1 rfl).trans hg0
  have km1_1_2 : m1 1 2 = g1 := (gm1 1 2 rfl).trans hg1
  have fm1_5 : m1 5 = F5 := (funext fun k => gm1 5 k rfl).trans hG5
  have fm1_6 : m1 6 = F6 := (funext fun k => gm1 6 k rfl).trans hG6
  have fm1_7 : m1 7 = F7 := (funext fun k => gm1 7 k rfl).trans hG7
  have fm1_8 : m1 8 = F8 := (funext fun k => gm1 8 k rfl).trans hG8
  have fm1_10 : m1 10 = F10 := (funext fun k => gm1 10 k rfl).trans hG10
  have fm1_11 : m1 11 = F11 := (funext fun k => gm1 11 k rfl).trans hG11
  obtain ⟨f2, fm1_44⟩ : ∃ f, m1 44 = f := ⟨_, rfl⟩
  try rw [fm1_44] at po1_m1
  obtain ⟨f3, fm1_48⟩ : ∃ f, m1 48 = f := ⟨_, rfl⟩
  try rw [fm1_48] at po0_m1
  obtain ⟨f4, fm1_50⟩ : ∃ f, m1 50 = f := ⟨_, rfl⟩
  try rw [fm1_50] at po1_m1
  obtain ⟨f5, fm1_51⟩ : ∃ f, m1 51 = f := ⟨_, rfl⟩
  try rw [fm1_51] at po1_m1
  have fm1_9 : m1 9 = F9 := (funext fun k => gm1 9 k rfl).trans hG9
  obtain ⟨f6, ef6⟩ : ∃ v, m1 45 1 = v := ⟨_, rfl⟩
  have bf6 := hIm1.fi (c := 45) (k := 1) rfl
  rw [ef6] at bf6
  rw [ef6] at po0_m1
  obtain ⟨f7, ef7⟩ : ∃ v, m1 45 8 = v := ⟨_, rfl⟩
  have bf7 := ib_45_8 hIm1
  rw [ef7] at bf7
  rw [ef7] at po0_m1
  show zW E (d) 43 5 [(2, 43), (0, a0), (0, a1), (0, a2), (0, a3), (9, 0), (9, 0)] [] m1 Q
  refine zw_push zr_43_5 ?_
  refine zw_10 (L' := [(2, 43), (0, a0), (0, a1), (0, a2), (0, a3), (0, 0), (9, 0)]) zr_43_6 (Nat.le_of_ble_eq_true rfl) rfl ?_
  have lp8_13 : ∀ (nlp8_13 : Nat) (i8 : Int) (f10 : Nat → Int) (f11 : Nat → Int) (f12 : Nat → Int) (m9 : zM), zInv m9 → zFr W_43 m0 m9 → m9 1 1 = g0 → m9 1 2 = g1 → m9 45 1 = f6 → m9 45 8 = f7 → m9 5 = F5 → m9 6 = F6 → m9 7 = F7 → m9 8 = F8 → m9 10 = F10 → m9 11 = F11 → m9 44 = f10 → m9 48 = f3 → m9 50 = f11 → m9 51 = f12 → m9 9 = F9 → 0 ≤ i8 → i8 ≤ 60 → (zPb (f10, f11, f12) i8) → (i8 ≤ g0) → (60 - i8).toNat < nlp8_13 → zW E (d) 43 8 [(2, 43), (0, a0), (0, a1), (0, a2), (0, a3), (0, i8), (9, 0)] [] m9 Q := by
    intro nlp8_13
    induction nlp8_13 with
    | zero =>
      intros
      exact absurd (by assumption : _ < 0) (Nat.not_lt_zero _)
    | succ nlp8_13 ihlp8_13 =>
      intro i8 f10 f11 f12 m9 hIm9 hFm9 km9_1_1 km9_1_2 km9_45_1 km9_45_8 fm9_5 fm9_6 fm9_7 fm9_8 fm9_10 fm9_11 fm9_44 fm9_48 fm9_50 fm9_51 fm9_9 li8 ui8 hv0lp8_13 hv1lp8_13 hmlp8_13
      refine zw_4 zr_43_8 rfl ?_
      refine zw_7 zr_43_10 rfl ?_
      refine zw_46r (s := 1) zr_43_11 rfl rfl rfl rfl ?_
      refine zw_46i zr_43_14 km9_1_1 rfl rfl rfl ?_
      refine zw_41_3 zr_43_17 ?_ ?_
      · intro h15
        refine zw_7 zr_43_46 rfl ?_
        refine zw_4 zr_43_47 rfl ?_
        refine zw_C zr_43_49 (Or.inl rfl) zm_30 rfl rfl ⟨Nat.le_of_ble_eq_true rfl, Nat.le_of_ble_eq_true rfl, Nat.le_of_ble_eq_true rfl, rfl, by decide⟩ (by omega) (th_30 (d := d - 1) (by omega) hIm9 (a0 := a3)      (by omega) ) ?_
        rintro _ _ ⟨r16, rfl, hr16a, hr16b, rfl⟩
        show zW E (d) 43 52 [(2, 43), (0, a0), (0, a1), (0, a2), (0, a3), (0, i8), (9, 0)] [(0, r16)] m9 Q
        refine zw_10 (L' := [(2, 43), (0, a0), (0, a1), (0, a2), (0, a3), (0, i8), (0, r16)]) zr_43_52 (Nat.le_of_ble_eq_true rfl) rfl ?_
        have lp54_22 : ∀ (nlp54_22 : Nat) (i17 : Int) (f19 : Nat → Int) (f20 : Nat → Int) (f21 : Nat → Int) (m18 : zM), zInv m18 → zFr W_43 m0 m18 → m18 1 1 = g0 → m18 1 2 = g1 → m18 45 1 = f6 → m18 45 8 = f7 → m18 5 = F5 → m18 6 = F6 → m18 7 = F7 → m18 8 = F8 → m18 10 = F10 → m18 11 = F11 → m18 44 = f19 → m18 48 = f3 → m18 50 = f20 → m18 51 = f21 → m18 9 = F9 → 0 ≤ i17 → i17 ≤ 60 → (zPb (f19, f20, f21) i17) → (i17 ≤ g0) → (60 - i17).toNat < nlp54_22 → zW E (d) 43 54 [(2, 43), (0, a0), (0, a1), (0, a2), (0, a3), (0, i17), (0, r16)] [] m18 Q := by
          intro nlp54_22
          induction nlp54_22 with
          | zero =>
            intros
            exact absurd (by assumption : _ < 0) (Nat.not_lt_zero _)
          | succ nlp54_22 ihlp54_22 =>
            intro i17 f19 f20 f21 m18 hIm18 hFm18 km18_1_1 km18_1_2 km18_45_1 km18_45_8 fm18_5 fm18_6 fm18_7 fm18_8 fm18_10 fm18_11 fm18_44 fm18_48 fm18_50 fm18_51 fm18_9 li17 ui17 hv0lp54_22 hv1lp54_22 hmlp54_22
            refine zw_4 zr_43_54 rfl ?_
            refine zw_7 zr_43_56 rfl ?_
            refine zw_46r (s := 1) zr_43_57 rfl rfl rfl rfl ?_
            refine zw_46i zr_43_60 km18_1_1 rfl rfl rfl ?_
            refine zw_41_3 zr_43_63 ?_ ?_
            · intro h24
              refine zw_7 zr_43_92 rfl ?_
              refine zw_4 zr_43_93 rfl ?_
              refine zw_C zr_43_95 (Or.inl rfl) zm_30 rfl rfl ⟨Nat.le_of_ble_eq_true rfl, Nat.le_of_ble_eq_true rfl, Nat.le_of_ble_eq_true rfl, rfl, by decide⟩ (by omega) (th_30 (d := d - 1) (by omega) hIm18 (a0 := a3)      (by omega) ) ?_
              rintro _ _ ⟨r25, rfl, hr25a, hr25b, rfl⟩
              show zW E (d) 43 98 [(2, 43), (0, a0), (0, a1), (0, a2), (0, a3), (0, i17), (0, r16)] [(0, r25)] m18 Q
              refine zw_4 zr_43_98 rfl ?_
              refine zw_17h zr_43_100 ?_
              intro x26 hx26a hx26b
              refine zw_R zr_43_101 (by decide) zm_43 (v := (0, x26)) rfl ?_
              rw [← hQ]; exact ⟨_, rfl, by omega, by omega, hIm18, hFm18⟩
            · intro h27
              refine zw_7 zr_43_66 rfl ?_
              refine zw_46r (s := 1) zr_43_67 rfl rfl rfl rfl ?_
              refine zw_46r (s := 5) zr_43_70 rfl rfl rfl rfl ?_
              refine zw_4 zr_43_73 rfl ?_
              refine zw_48 (c := 5) (len := 60) zr_43_75 rfl rfl (by omega) (by omega) ?_
              intro x28 ex28
              have bx28 := ib_5 hIm18 (k := (i17).toNat) (by omega)
              rw [← ex28] at bx28
              clear ex28
              refine zw_3 zr_43_76 rfl ?_
              refine zw_41_2 zr_43_77 ?_ ?_
              · intro h29
                refine zw_7 zr_43_92 rfl ?_
                refine zw_4 zr_43_93 rfl ?_
                refine zw_C zr_43_95 (Or.inl rfl) zm_30 rfl rfl ⟨Nat.le_of_ble_eq_true rfl, Nat.le_of_ble_eq_true rfl, Nat.le_of_ble_eq_true rfl, rfl, by decide⟩ (by omega) (th_30 (d := d - 1) (by omega) hIm18 (a0 := a3)      (by omega) ) ?_
                rintro _ _ ⟨r30, rfl, hr30a, hr30b, rfl⟩
                show zW E (d) 43 98 [(2, 43), (0, a0), (0, a1), (0, a2), (0, a3), (0, i17), (0, r16)] [(0, r30)] m18 Q
                refine zw_4 zr_43_98 rfl ?_
                refine zw_17h zr_43_100 ?_
                intro x31 hx31a hx31b
                refine zw_R zr_43_101 (by decide) zm_43 (v := (0, x31)) rfl ?_
                rw [← hQ]; exact ⟨_, rfl, by omega, by omega, hIm18, hFm18⟩
              · intro h32
                refine zw_7 zr_43_80 rfl ?_
                refine zw_4 zr_43_81 rfl ?_
                refine zw_C zr_43_83 (Or.inl rfl) zm_26 rfl rfl ⟨Nat.le_of_ble_eq_true rfl, Nat.le_of_ble_eq_true rfl, Nat.le_of_ble_eq_true rfl, rfl, by decide⟩ (by omega) (th_26 (d := d - 1) (by omega) hIm18 (a0 := i17) (g0 := f6) (g1 := f7) (g2 := g1) (gS := a0) (gN := i17) (F5 := F5) (F6 := F6) (F7 := F7) (F8 := F8) (F10 := F10) (F11 := F11) (F44 := f19) (F48 := f3) (F50 := f20) (F51 := f21) km18_45_1 km18_45_8 km18_1_2 fm18_5 fm18_6 fm18_7 fm18_8 fm18_10 fm18_11 fm18_44 fm18_48 fm18_50 fm18_51 (by omega) (by assumption) (by first | exact hv0lp54_22 | exact hv0lp8_13) (by omega)) ?_
                rintro _ m37 ⟨rfl, hIm37, gm37, po0_m37, po1_m37, po2_m37⟩
                have hFm37 : zFr W_43 m0 m37 := hFm18.trans gm37 rfl
                have km37_1_1 : m37 1 1 = g0 := (gm37 1 1 rfl).trans km18_1_1
                have km37_1_2 : m37 1 2 = g1 := (gm37 1 2 rfl).trans km18_1_2
                have km37_45_1 : m37 45 1 = f6 := (gm37 45 1 rfl).trans km18_45_1
                have km37_45_8 : m37 45 8 = f7 := (gm37 45 8 rfl).trans km18_45_8
                have fm37_5 : m37 5 = F5 := (funext fun k => gm37 5 k rfl).trans fm18_5
                have fm37_6 : m37 6 = F6 := (funext fun k => gm37 6 k rfl).trans fm18_6
                have fm37_7 : m37 7 = F7 := (funext fun k => gm37 7 k rfl).trans fm18_7
                have fm37_8 : m37 8 = F8 := (funext fun k => gm37 8 k rfl).trans fm18_8
                have fm37_10 : m37 10 = F10 := (funext fun k => gm37 10 k rfl).trans fm18_10
                have fm37_11 : m37 11 = F11 := (funext fun k => gm37 11 k rfl).trans fm18_11
                obtain ⟨f38, fm37_44⟩ : ∃ f, m37 44 = f := ⟨_, rfl⟩
                try rw [fm37_44] at po0_m37
                try rw [fm37_44] at po1_m37
                have fm37_48 : m37 48 = f3 := (funext fun k => gm37 48 k rfl).trans fm18_48
                obtain ⟨f39, fm37_50⟩ : ∃ f, m37 50 = f := ⟨_, rfl⟩
                try rw [fm37_50] at po0_m37
                try rw [fm37_50] at po1_m37
                obtain ⟨f40, fm37_51⟩ : ∃ f, m37 51 = f := ⟨_, rfl⟩
                try rw [fm37_51] at po0_m37
                try rw [fm37_51] at po1_m37
                have fm37_9 : m37 9 = F9 := (funext fun k => gm37 9 k rfl).trans fm18_9
                obtain ⟨f41, ef41⟩ : ∃ v, m37 43 5 = v := ⟨_, rfl⟩
                have bf41 := hIm37.fi (c := 43) (k := 5) rfl
                rw [ef41] at bf41
                rw [ef41] at po0_m37
                rw [ef41] at po2_m37
                show zW E (d) 43 86 [(2, 43), (0, a0), (0, a1), (0, a2), (0, a3), (0, i17), (0, r16)] [] m37 Q
                refine zw_15 (c := 1) (L' := [(2, 43), (0, a0), (0, a1), (0, a2), (0, a3), (0, (i17 + 1)), (0, r16)]) zr_43_86 rfl (by decide) (by omega) rfl ?_
                refine zw_42 zr_43_89 ?_
                exact zw_less (L := [(2, 43), (0, a0), (0, a1), (0, a2), (0, a3), (0, (i17 + 1)), (0, r16)]) ⟨Or.inr rfl, Or.inr rfl, Or.inr rfl, Or.inr rfl, Or.inr rfl, Or.inr rfl, Or.inr rfl, trivial⟩ (ihlp54_22 ((i17 + 1)) (f38) (f39) (f40) m37 hIm37 hFm37  km37_1_1 km37_1_2 km37_45_1 km37_45_8 fm37_5 fm37_6 fm37_7 fm37_8 fm37_10 fm37_11 fm37_44 fm37_48 fm37_50 fm37_51 fm37_9 (by omega) (by omega) (po1_m37) (by omega) (by omega))
        exact lp54_22 _ (i8) (f10) (f11) (f12) m9 hIm9 hFm9  km9_1_1 km9_1_2 km9_45_1 km9_45_8 fm9_5 fm9_6 fm9_7 fm9_8 fm9_10 fm9_11 fm9_44 fm9_48 fm9_50 fm9_51 fm9_9 (by omega) (by omega) (hv0lp8_13) (by omega) (Nat.lt_succ_self _)
      · intro h44
        refine zw_7 zr_43_20 rfl ?_
        refine zw_46r (s := 1) zr_43_21 rfl rfl rfl rfl ?_
        refine zw_46r (s := 5) zr_43_24 rfl rfl rfl rfl ?_
        refine zw_4 zr_43_27 rfl ?_
        refine zw_48 (c := 5) (len := 60) zr_43_29 rfl rfl (by omega) (by omega) ?_
        intro x45 ex45
        have bx45 := ib_5 hIm9 (k := (i8).toNat) (by omega)
        rw [← ex45] at bx45
        clear ex45
        refine zw_3 zr_43_30 rfl ?_
        refine zw_41_2 zr_43_31 ?_ ?_
        · intro h46
          refine zw_7 zr_43_46 rfl ?_
          refine zw_4 zr_43_47 rfl ?_
          refine zw_C zr_43_49 (Or.inl rfl) zm_30 rfl rfl ⟨Nat.le_of_ble_eq_true rfl, Nat.le_of_ble_eq_true rfl, Nat.le_of_ble_eq_true rfl, rfl, by decide⟩ (by omega) (th_30 (d := d - 1) (by omega) hIm9 (a0 := a3)      (by omega) ) ?_
          rintro _ _ ⟨r47, rfl, hr47a, hr47b, rfl⟩
          show zW E (d) 43 52 [(2, 43), (0, a0), (0, a1), (0, a2), (0, a3), (0, i8), (9, 0)] [(0, r47)] m9 Q
          refine zw_10 (L' := [(2, 43), (0, a0), (0, a1), (0, a2), (0, a3), (0, i8), (0, r47)]) zr_43_52 (Nat.le_of_ble_eq_true rfl) rfl ?_
          have lp54_53 : ∀ (nlp54_53 : Nat) (i48 : Int) (f50 : Nat → Int) (f51 : Nat → Int) (f52 : Nat → Int) (m49 : zM), zInv m49 → zFr W_43 m0 m49 → m49 1 1 = g0 → m49 1 2 = g1 → m49 45 1 = f6 → m49 45 8 = f7 → m49 5 = F5 → m49 6 = F6 → m49 7 = F7 → m49 8 = F8 → m49 10 = F10 → m49 11 = F11 → m49 44 = f50 → m49 48 = f3 → m49 50 = f51 → m49 51 = f52 → m49 9 = F9 → 0 ≤ i48 → i48 ≤ 60 → (zPb (f50, f51, f52) i48) → (i48 ≤ g0) → (60 - i48).toNat < nlp54_53 → zW E (d) 43 54 [(2, 43), (0, a0), (0, a1), (0, a2), (0, a3), (0, i48), (0, r47)] [] m49 Q := by
            intro nlp54_53
            induction nlp54_53 with
            | zero =>
              intros
              exact absurd (by assumption : _ < 0) (Nat.not_lt_zero _)
            | succ nlp54_53 ihlp54_53 =>
              intro i48 f50 f51 f52 m49 hIm49 hFm49 km49_1_1 km49_1_2 km49_45_1 km49_45_8 fm49_5 fm49_6 fm49_7 fm49_8 fm49_10 fm49_11 fm49_44 fm49_48 fm49_50 fm49_51 fm49_9 li48 ui48 hv0lp54_53 hv1lp54_53 hmlp54_53
              refine zw_4 zr_43_54 rfl ?_
              refine zw_7 zr_43_56 rfl ?_
              refine zw_46r (s := 1) zr_43_57 rfl rfl rfl rfl ?_
              refine zw_46i zr_43_60 km49_1_1 rfl rfl rfl ?_
              refine zw_41_3 zr_43_63 ?_ ?_
              · intro h55
                refine zw_7 zr_43_92 rfl ?_
                refine zw_4 zr_43_93 rfl ?_
                refine zw_C zr_43_95 (Or.inl rfl) zm_30 rfl rfl ⟨Nat.le_of_ble_eq_true rfl, Nat.le_of_ble_eq_true rfl, Nat.le_of_ble_eq_true rfl, rfl, by decide⟩ (by omega) (th_30 (d := d - 1) (by omega) hIm49 (a0 := a3)      (by omega) ) ?_
                rintro _ _ ⟨r56, rfl, hr56a, hr56b, rfl⟩
                show zW E (d) 43 98 [(2, 43), (0, a0), (0, a1), (0, a2), (0, a3), (0, i48), (0, r47)] [(0, r56)] m49 Q
                refine zw_4 zr_43_98 rfl ?_
                refine zw_17h zr_43_100 ?_
                intro x57 hx57a hx57b
                refine zw_R zr_43_101 (by decide) zm_43 (v := (0, x57)) rfl ?_
                rw [← hQ]; exact ⟨_, rfl, by omega, by omega, hIm49, hFm49⟩
              · intro h58
                refine zw_7 zr_43_66 rfl ?_
                refine zw_46r (s := 1) zr_43_67 rfl rfl rfl rfl ?_
                refine zw_46r (s := 5) zr_43_70 rfl rfl rfl rfl ?_
                refine zw_4 zr_43_73 rfl ?_
                refine zw_48 (c := 5) (len := 60) zr_43_75 rfl rfl (by omega) (by omega) ?_
                intro x59 ex59
                have bx59 := ib_5 hIm49 (k := (i48).toNat) (by omega)
                rw [← ex59] at bx59
                clear ex59
                refine zw_3 zr_43_76 rfl ?_
                refine zw_41_2 zr_43_77 ?_ ?_
                · intro h60
                  refine zw_7 zr_43_92 rfl ?_
                  refine zw_4 zr_43_93 rfl ?_
                  refine zw_C zr_43_95 (Or.inl rfl) zm_30 rfl rfl ⟨Nat.le_of_ble_eq_true rfl, Nat.le_of_ble_eq_true rfl, Nat.le_of_ble_eq_true rfl, rfl, by decide⟩ (by omega) (th_30 (d := d - 1) (by omega) hIm49 (a0 := a3)      (by omega) ) ?_
                  rintro _ _ ⟨r61, rfl, hr61a, hr61b, rfl⟩
                  show zW E (d) 43 98 [(2, 43), (0, a0), (0, a1), (0, a2), (0, a3), (0, i48), (0, r47)] [(0, r61)] m49 Q
                  refine zw_4 zr_43_98 rfl ?_
                  refine zw_17h zr_43_100 ?_
                  intro x62 hx62a hx62b
                  refine zw_R zr_43_101 (by decide) zm_43 (v := (0, x62)) rfl ?_
                  rw [← hQ]; exact ⟨_, rfl, by omega, by omega, hIm49, hFm49⟩
                · intro h63
                  refine zw_7 zr_43_80 rfl ?_
                  refine zw_4 zr_43_81 rfl ?_
                  refine zw_C zr_43_83 (Or.inl rfl) zm_26 rfl rfl ⟨Nat.le_of_ble_eq_true rfl, Nat.le_of_ble_eq_true rfl, Nat.le_of_ble_eq_true rfl, rfl, by decide⟩ (by omega) (th_26 (d := d - 1) (by omega) hIm49 (a0 := i48) (g0 := f6) (g1 := f7) (g2 := g1) (gS := a0) (gN := i48) (F5 := F5) (F6 := F6) (F7 := F7) (F8 := F8) (F10 := F10) (F11 := F11) (F44 := f50) (F48 := f3) (F50 := f51) (F51 := f52) km49_45_1 km49_45_8 km49_1_2 fm49_5 fm49_6 fm49_7 fm49_8 fm49_10 fm49_11 fm49_44 fm49_48 fm49_50 fm49_51 (by omega) (by assumption) (by first | exact hv0lp54_53 | exact hv0lp8_13) (by omega)) ?_
                  rintro _ m68 ⟨rfl, hIm68, gm68, po0_m68, po1_m68, po2_m68⟩
                  have hFm68 : zFr W_43 m0 m68 := hFm49.trans gm68 rfl
                  have km68_1_1 : m68 1 1 = g0 := (gm68 1 1 rfl).trans km49_1_1
                  have km68_1_2 : m68 1 2 = g1 := (gm68 1 2 rfl).trans km49_1_2
                  have km68_45_1 : m68 45 1 = f6 := (gm68 45 1 rfl).trans km49_45_1
                  have km68_45_8 : m68 45 8 = f7 := (gm68 45 8 rfl).trans km49_45_8
                  have fm68_5 : m68 5 = F5 := (funext fun k => gm68 5 k rfl).trans fm49_5
                  have fm68_6 : m68 6 = F6 := (funext fun k => gm68 6 k rfl).trans fm49_6
                  have fm68_7 : m68 7 = F7 := (funext fun k => gm68 7 k rfl).trans fm49_7
                  have fm68_8 : m68 8 = F8 := (funext fun k => gm68 8 k rfl).trans fm49_8
                  have fm68_10 : m68 10 = F10 := (funext fun k => gm68 10 k rfl).trans fm49_10
                  have fm68_11 : m68 11 = F11 := (funext fun k => gm68 11 k rfl).trans fm49_11
                  obtain ⟨f69, fm68_44⟩ : ∃ f, m68 44 = f := ⟨_, rfl⟩
                  try rw [fm68_44] at po0_m68
                  try rw [fm68_44] at po1_m68
                  have fm68_48 : m68 48 = f3 := (funext fun k => gm68 48 k rfl).trans fm49_48
                  obtain ⟨f70, fm68_50⟩ : ∃ f, m68 50 = f := ⟨_, rfl⟩
                  try rw [fm68_50] at po0_m68
                  try rw [fm68_50] at po1_m68
                  obtain ⟨f71, fm68_51⟩ : ∃ f, m68 51 = f := ⟨_, rfl⟩
                  try rw [fm68_51] at po0_m68
                  try rw [fm68_51] at po1_m68
                  have fm68_9 : m68 9 = F9 := (funext fun k => gm68 9 k rfl).trans fm49_9
                  obtain ⟨f72, ef72⟩ : ∃ v, m68 43 5 = v := ⟨_, rfl⟩
                  have bf72 := hIm68.fi (c := 43) (k := 5) rfl
                  rw [ef72] at bf72
                  rw [ef72] at po0_m68
                  rw [ef72] at po2_m68
                  show zW E (d) 43 86 [(2, 43), (0, a0), (0, a1), (0, a2), (0, a3), (0, i48), (0, r47)] [] m68 Q
                  refine zw_15 (c := 1) (L' := [(2, 43), (0, a0), (0, a1), (0, a2), (0, a3), (0, (i48 + 1)), (0, r47)]) zr_43_86 rfl (by decide) (by omega) rfl ?_
                  refine zw_42 zr_43_89 ?_
                  exact zw_less (L := [(2, 43), (0, a0), (0, a1), (0, a2), (0, a3), (0, (i48 + 1)), (0, r47)]) ⟨Or.inr rfl, Or.inr rfl, Or.inr rfl, Or.inr rfl, Or.inr rfl, Or.inr rfl, Or.inr rfl, trivial⟩ (ihlp54_53 ((i48 + 1)) (f69) (f70) (f71) m68 hIm68 hFm68  km68_1_1 km68_1_2 km68_45_1 km68_45_8 fm68_5 fm68_6 fm68_7 fm68_8 fm68_10 fm68_11 fm68_44 fm68_48 fm68_50 fm68_51 fm68_9 (by omega) (by omega) (po1_m68) (by omega) (by omega))
          exact lp54_53 _ (i8) (f10) (f11) (f12) m9 hIm9 hFm9  km9_1_1 km9_1_2 km9_45_1 km9_45_8 fm9_5 fm9_6 fm9_7 fm9_8 fm9_10 fm9_11 fm9_44 fm9_48 fm9_50 fm9_51 fm9_9 (by omega) (by omega) (hv0lp8_13) (by omega) (Nat.lt_succ_self _)
        · intro h75
          refine zw_7 zr_43_34 rfl ?_
          refine zw_4 zr_43_35 rfl ?_
          refine zw_C zr_43_37 (Or.inl rfl) zm_26 rfl rfl ⟨Nat.le_of_ble_eq_true rfl, Nat.le_of_ble_eq_true rfl, Nat.le_of_ble_eq_true rfl, rfl, by decide⟩ (by omega) (th_26 (d := d - 1) (by omega) hIm9 (a0 := i8) (g0 := f6) (g1 := f7) (g2 := g1) (gS := a0) (gN := i8) (F5 := F5) (F6 := F6) (F7 := F7) (F8 := F8) (F10 := F10) (F11 := F11) (F44 := f10) (F48 := f3) (F50 := f11) (F51 := f12) km9_45_1 km9_45_8 km9_1_2 fm9_5 fm9_6 fm9_7 fm9_8 fm9_10 fm9_11 fm9_44 fm9_48 fm9_50 fm9_51 (by omega) (by assumption) (by first | exact zz | exact hv0lp8_13) (by omega)) ?_
          rintro _ m80 ⟨rfl, hIm80, gm80, po0_m80, po1_m80, po2_m80⟩
          have hFm80 : zFr W_43 m0 m80 := hFm9.trans gm80 rfl
          have km80_1_1 : m80 1 1 = g0 := (gm80 1 1 rfl).trans km9_1_1
          have km80_1_2 : m80 1 2 = g1 := (gm80 1 2 rfl).trans km9_1_2
          have km80_45_1 : m80 45 1 = f6 := (gm80 45 1 rfl).trans km9_45_1
          have km80_45_8 : m80 45 8 = f7 := (gm80 45 8 rfl).trans km9_45_8
          have fm80_5 : m80 5 = F5 := (funext fun k => gm80 5 k rfl).trans fm9_5
          have fm80_6 : m80 6 = F6 := (funext fun k => gm80 6 k rfl).trans fm9_6
          have fm80_7 : m80 7 = F7 := (funext fun k => gm80 7 k rfl).trans fm9_7
          have fm80_8 : m80 8 = F8 := (funext fun k => gm80 8 k rfl).trans fm9_8
          have fm80_10 : m80 10 = F10 := (funext fun k => gm80 10 k rfl).trans fm9_10
          have fm80_11 : m80 11 = F11 := (funext fun k => gm80 11 k rfl).trans fm9_11
          obtain ⟨f81, fm80_44⟩ : ∃ f, m80 44 = f := ⟨_, rfl⟩
          try rw [fm80_44] at po0_m80
          try rw [fm80_44] at po1_m80
          have fm80_48 : m80 48 = f3 := (funext fun k => gm80 48 k rfl).trans fm9_48
          obtain ⟨f82, fm80_50⟩ : ∃ f, m80 50 = f := ⟨_, rfl⟩
          try rw [fm80_50] at po0_m80
          try rw [fm80_50] at po1_m80
          obtain ⟨f83, fm80_51⟩ : ∃ f, m80 51 = f := ⟨_, rfl⟩
          try rw [fm80_51] at po0_m80
          try rw [fm80_51] at po1_m80
          have fm80_9 : m80 9 = F9 := (funext fun k => gm80 9 k rfl).trans fm9_9
          obtain ⟨f84, ef84⟩ : ∃ v, m80 43 5 = v := ⟨_, rfl⟩
          have bf84 := hIm80.fi (c := 43) (k := 5) rfl
          rw [ef84] at bf84
          rw [ef84] at po0_m80
          rw [ef84] at po2_m80
          show zW E (d) 43 40 [(2, 43), (0, a0), (0, a1), (0, a2), (0, a3), (0, i8), (9, 0)] [] m80 Q
          refine zw_15 (c := 1) (L' := [(2, 43), (0, a0), (0, a1), (0, a2), (0, a3), (0, (i8 + 1)), (9, 0)]) zr_43_40 rfl (by decide) (by omega) rfl ?_
          refine zw_42 zr_43_43 ?_
          exact zw_less (L := [(2, 43), (0, a0), (0, a1), (0, a2), (0, a3), (0, (i8 + 1)), (9, 0)]) ⟨Or.inr rfl, Or.inr rfl, Or.inr rfl, Or.inr rfl, Or.inr rfl, Or.inr rfl, Or.inl rfl, trivial⟩ (ihlp8_13 ((i8 + 1)) (f81) (f82) (f83) m80 hIm80 hFm80  km80_1_1 km80_1_2 km80_45_1 km80_45_8 fm80_5 fm80_6 fm80_7 fm80_8 fm80_10 fm80_11 fm80_44 fm80_48 fm80_50 fm80_51 fm80_9 (by omega) (by omega) (po1_m80) (by omega) (by omega))
  exact lp8_13 _ (0) (f2) (f4) (f5) m1 hIm1 hFm1  km1_1_1 km1_1_2 ef6 ef7 fm1_5 fm1_6 fm1_7 fm1_8 fm1_10 fm1_11 fm1_44 fm1_48 fm1_50 fm1_51 fm1_9 (by omega) (by omega) (zPb_0 po1_m1 (by have z := ib_9 hI0 (k := a0.toNat) (by omega); rw [hG9] at z; omega)) (by omega) (Nat.lt_succ_self _)

set_option maxHeartbeats 8000000 in
theorem th_29 {E : zE} {d : Nat} {m0 : zM} {a0 : Int} (hd : 1 ≤ d) (hI0 : zInv m0) (ha0 : (-2147483648) ≤ a0 ∧ a0 ≤ 2147483647) : zC E d 29 [(0, a0)] m0 (fun v m' => ∃ r : Int, v = (0, r) ∧ 0 ≤ r ∧ r ≤ 63 ∧ m0 = m') := by
  generalize hQ : (fun (v : zV) (m' : zM) => ∃ r : Int, v = (0, r) ∧ 0 ≤ r ∧ r ≤ 63 ∧ m0 = m') = Q
  show zW E d 29 0 [(0, a0)] [] m0 Q
  refine zw_3 zr_29_0 rfl ?_
  refine zw_3 zr_29_1 rfl ?_
  refine zw_push zr_29_2 ?_
  refine zw_26h zr_29_3 ?_
  intro x1 hx1a hx1b
  refine zw_push zr_29_4 ?_
  refine zw_21m zr_29_7 (by omega) (by omega) ?_
  intro x2 hx2a hx2b
  refine zw_17h zr_29_8 ?_
  intro x3 hx3a hx3b
  refine zw_9 (L' := [(0, x3)]) zr_29_9 (Nat.le_of_ble_eq_true rfl) rfl ?_
  refine zw_3 zr_29_10 rfl ?_
  refine zw_push zr_29_11 ?_
  refine zw_21m zr_29_14 (by omega) (by omega) ?_
  intro x4 hx4a hx4b
  refine zw_3 zr_29_15 rfl ?_
  refine zw_push zr_29_16 ?_
  refine zw_26h zr_29_17 ?_
  intro x5 hx5a hx5b
  refine zw_push zr_29_18 ?_
  refine zw_21m zr_29_21 (by omega) (by omega) ?_
  intro x6 hx6a hx6b
  refine zw_16 zr_29_22 (by omega) ?_
  refine zw_9 (L' := [(0, (x4 + x6))]) zr_29_23 (Nat.le_of_ble_eq_true rfl) rfl ?_
  refine zw_3 zr_29_24 rfl ?_
  refine zw_3 zr_29_25 rfl ?_
  refine zw_push zr_29_26 ?_
  refine zw_26h zr_29_27 ?_
  intro x7 hx7a hx7b
  refine zw_16h zr_29_28 ?_
  intro x8 hx8a hx8b
  refine zw_push zr_29_29 ?_
  refine zw_21m zr_29_32 (by omega) (by omega) ?_
  intro x9 hx9a hx9b
  refine zw_9 (L' := [(0, x9)]) zr_29_33 (Nat.le_of_ble_eq_true rfl) rfl ?_
  refine zw_3 zr_29_34 rfl ?_
  refine zw_3 zr_29_35 rfl ?_
  refine zw_push zr_29_36 ?_
  refine zw_26h zr_29_38 ?_
  intro x10 hx10a hx10b
  refine zw_16h zr_29_39 ?_
  intro x11 hx11a hx11b
  refine zw_9 (L' := [(0, x11)]) zr_29_40 (Nat.le_of_ble_eq_true rfl) rfl ?_
  refine zw_3 zr_29_41 rfl ?_
  refine zw_3 zr_29_42 rfl ?_
  refine zw_push zr_29_43 ?_
  refine zw_26h zr_29_45 ?_
  intro x12 hx12a hx12b
  refine zw_16h zr_29_46 ?_
  intro x13 hx13a hx13b
  refine zw_9 (L' := [(0, x13)]) zr_29_47 (Nat.le_of_ble_eq_true rfl) rfl ?_
  refine zw_3 zr_29_48 rfl ?_
  refine zw_push zr_29_49 ?_
  refine zw_21m zr_29_51 (by omega) (by omega) ?_
  intro x14 hx14a hx14b
  refine zw_R zr_29_52 (by decide) zm_29 (v := (0, x14)) rfl ?_
  rw [← hQ]; exact ⟨_, rfl, by omega, by omega, rfl⟩

set_option maxHeartbeats 8000000 in
theorem th_37 {E : zE} {d : Nat} {m0 : zM} {a0 : Int} {a1 : Int} (hd : 1 ≤ d) (hI0 : zInv m0) (ha0 : (-9223372036854775808) ≤ a0 ∧ a0 ≤ 9223372036854775807) (ha1 : (-9223372036854775808) ≤ a1 ∧ a1 ≤ 9223372036854775807) : zC E d 37 [(1, a0), (1, a1)] m0 (fun v m' => ∃ r : Int, v = (1, r) ∧ (-9223372036854775808) ≤ r ∧ r ≤ 9223372036854775807 ∧ m0 = m') := by
  generalize hQ : (fun (v : zV) (m' : zM) => ∃ r : Int, v = (1, r) ∧ (-9223372036854775808) ≤ r ∧ r ≤ 9223372036854775807 ∧ m0 = m') = Q
  show zW E d 37 0 [(1, a0), (9, 0), (1, a1), (9, 0), (9, 0), (9, 0), (9, 0), (9, 0), (9, 0), (9, 0), (9, 0)] [] m0 Q
  refine zw_5 zr_37_0 rfl ?_
  refine zw_14 (L' := [(1, a0), (9, 0), (1, a1), (9, 0), (1, a0), (9, 0), (9, 0), (9, 0), (9, 0), (9, 0), (9, 0)]) zr_37_1 (Nat.le_of_ble_eq_true rfl) rfl ?_
  refine zw_5 zr_37_3 rfl ?_
  refine zw_14 (L' := [(1, a0), (9, 0), (1, a1), (9, 0), (1, a0), (9, 0), (1, a1), (9, 0), (9, 0), (9, 0), (9, 0)]) zr_37_4 (Nat.le_of_ble_eq_true rfl) rfl ?_
  refine zw_push zr_37_6 ?_
  refine zw_10 (L' := [(1, a0), (9, 0), (1, a1), (9, 0), (1, a0), (9, 0), (1, a1), (9, 0), (0, 0), (9, 0), (9, 0)]) zr_37_7 (Nat.le_of_ble_eq_true rfl) rfl ?_
  have lp9_4 : ∀ (nlp9_4 : Nat) (i1 i2 i3 : Int), (-9223372036854775808) ≤ i1 → i1 ≤ 9223372036854775807 → (-9223372036854775808) ≤ i2 → i2 ≤ 9223372036854775807 → 0 ≤ i3 → i3 ≤ 100 → (100 - i3).toNat < nlp9_4 → zW E (d) 37 9 [(1, a0), (9, 0), (1, a1), (9, 0), (1, i1), (9, 0), (1, i2), (9, 0), (0, i3), (9, 0), (9, 0)] [] m0 Q := by
    intro nlp9_4
    induction nlp9_4 with
    | zero =>
      intros
      exact absurd (by assumption : _ < 0) (Nat.not_lt_zero _)
    | succ nlp9_4 ihlp9_4 =>
      intro i1 i2 i3 li1 ui1 li2 ui2 li3 ui3 hmlp9_4
      refine zw_4 zr_37_9 rfl ?_
      refine zw_push zr_37_11 ?_
      refine zw_41_3 zr_37_13 ?_ ?_
      · intro h6
        refine zw_6 zr_37_44 rfl ?_
        refine zw_R zr_37_46 (by decide) zm_37 (v := (1, i1)) rfl ?_
        rw [← hQ]; exact ⟨_, rfl, by omega, by omega, rfl⟩
      · intro h7
        refine zw_6 zr_37_16 rfl ?_
        refine zw_push zr_37_18 ?_
        refine zw_39_1 zr_37_19 zr_37_20 ?_ ?_
        · intro h8
          refine zw_6 zr_37_44 rfl ?_
          refine zw_R zr_37_46 (by decide) zm_37 (v := (1, i1)) rfl ?_
          rw [← hQ]; exact ⟨_, rfl, by omega, by omega, rfl⟩
        · intro h9
          refine zw_6 zr_37_23 rfl ?_
          refine zw_6 zr_37_25 rfl ?_
          refine zw_119r zr_37_27 (by omega) (by omega) (by omega) ?_
          intro x10 hx10a hx10b hx10c
          refine zw_14 (L' := [(1, a0), (9, 0), (1, a1), (9, 0), (1, i1), (9, 0), (1, i2), (9, 0), (0, i3), (1, x10), (9, 0)]) zr_37_28 (Nat.le_of_ble_eq_true rfl) rfl ?_
          refine zw_6 zr_37_30 rfl ?_
          refine zw_14 (L' := [(1, a0), (9, 0), (1, a1), (9, 0), (1, i2), (9, 0), (1, i2), (9, 0), (0, i3), (1, x10), (9, 0)]) zr_37_32 (Nat.le_of_ble_eq_true rfl) rfl ?_
          refine zw_6 zr_37_34 rfl ?_
          refine zw_14 (L' := [(1, a0), (9, 0), (1, a1), (9, 0), (1, i2), (9, 0), (1, x10), (9, 0), (0, i3), (1, x10), (9, 0)]) zr_37_36 (Nat.le_of_ble_eq_true rfl) rfl ?_
          refine zw_15 (c := 1) (L' := [(1, a0), (9, 0), (1, a1), (9, 0), (1, i2), (9, 0), (1, x10), (9, 0), (0, (i3 + 1)), (1, x10), (9, 0)]) zr_37_38 rfl (by decide) (by omega) rfl ?_
          refine zw_42 zr_37_41 ?_
          exact zw_less (L := [(1, a0), (9, 0), (1, a1), (9, 0), (1, i2), (9, 0), (1, x10), (9, 0), (0, (i3 + 1)), (9, 0), (9, 0)]) ⟨Or.inr rfl, Or.inl rfl, Or.inr rfl, Or.inl rfl, Or.inr rfl, Or.inl rfl, Or.inr rfl, Or.inl rfl, Or.inr rfl, Or.inl rfl, Or.inl rfl, trivial⟩ (ihlp9_4 (i2) (x10) ((i3 + 1))  (by omega) (by omega) (by omega) (by omega) (by omega) (by omega)  (by omega))
  exact lp9_4 _ (a0) (a1) (0)  (by omega) (by omega) (by omega) (by omega) (by omega) (by omega)  (Nat.lt_succ_self _)

abbrev W_38 : List (Nat × Nat) := [(42, 0), (42, 1)]
set_option maxHeartbeats 8000000 in
theorem th_38 {E : zE} {d : Nat} {m0 : zM} {a0 : Int} {a1 : Int} (hd : 2 ≤ d) (hI0 : zInv m0) (ha0 : (-9223372036854775808) ≤ a0 ∧ a0 ≤ 9223372036854775807) (ha1 : (-9223372036854775808) ≤ a1 ∧ a1 ≤ 9223372036854775807) : zC E d 38 [(2, 42), (1, a0), (1, a1)] m0 (fun v m' => v = (9, 0) ∧ zInv m' ∧ zFr W_38 m0 m') := by
  have hF0 : zFr W_38 m0 m0 := zFr.rfl
  generalize hQ : (fun (v : zV) (m' : zM) => v = (9, 0) ∧ zInv m' ∧ zFr W_38 m0 m') = Q
  show zW E d 38 0 [(2, 42), (1, a0), (9, 0), (1, a1), (9, 0), (9, 0), (9, 0)] [] m0 Q
  refine zw_5 zr_38_0 rfl ?_
  refine zw_125h zr_38_1 (Nat.le_of_ble_eq_true rfl) (by omega) ?_
  intro x1 hx1a hx1b
  refine zw_5 zr_38_4 rfl ?_
  refine zw_C zr_38_5 (Or.inr rfl) zm_37 rfl rfl ⟨Nat.le_of_ble_eq_true rfl, Nat.le_of_ble_eq_true rfl, Nat.le_of_ble_eq_true rfl, rfl, by decide⟩ (by omega) (th_37 (d := d - 1) (by omega) hI0 (a0 := x1) (a1 := a1)      (by omega) (by omega) ) ?_
  rintro _ _ ⟨r2, rfl, hr2a, hr2b, rfl⟩
  show zW E (d) 38 8 [(2, 42), (1, a0), (9, 0), (1, a1), (9, 0), (9, 0), (9, 0)] [(1, r2)] m0 Q
  refine zw_14 (L' := [(2, 42), (1, a0), (9, 0), (1, a1), (9, 0), (1, r2), (9, 0)]) zr_38_8 (Nat.le_of_ble_eq_true rfl) rfl ?_
  refine zw_6 zr_38_10 rfl ?_
  refine zw_push zr_38_12 ?_
  refine zw_39_5 zr_38_13 zr_38_14 ?_ ?_
  · intro h3
    refine zw_R zr_38_33 (by decide) zm_38 (v := (9, 0)) rfl ?_
    rw [← hQ]; exact ⟨rfl, hI0, hF0⟩
  · intro h4
    refine zw_7 zr_38_17 rfl ?_
    refine zw_5 zr_38_18 rfl ?_
    refine zw_6 zr_38_19 rfl ?_
    refine zw_118h zr_38_21 (by omega) ?_
    intro x5 hx5a hx5b
    refine zw_47 (c := 42) zr_38_22 rfl ⟨rfl, by decide, rfl⟩ ?_
    intro m6 em6
    have hIm6 : zInv m6 := by rw [em6]; exact hI0.anyl (by omega) (by decide) rfl (by decide) (by decide)
    have hFm6 : zFr W_38 m0 m6 := by rw [em6]; exact hF0.up rfl
    have km6_42_0 : m6 42 0 = x5 := by rw [em6]; exact zUp_eq _ _ _ _
    clear em6
    refine zw_7 zr_38_25 rfl ?_
    refine zw_5 zr_38_26 rfl ?_
    refine zw_6 zr_38_27 rfl ?_
    refine zw_118h zr_38_29 (by omega) ?_
    intro x7 hx7a hx7b
    refine zw_47 (c := 42) zr_38_30 rfl ⟨rfl, by decide, rfl⟩ ?_
    intro m8 em8
    have hIm8 : zInv m8 := by rw [em8]; exact hIm6.anyl (by omega) (by decide) rfl (by decide) (by decide)
    have hFm8 : zFr W_38 m0 m8 := by rw [em8]; exact hFm6.up rfl
    have km8_42_0 : m8 42 0 = x5 := by rw [em8, zUp_ne (by omega)]; exact km6_42_0
    have km8_42_1 : m8 42 1 = x7 := by rw [em8]; exact zUp_eq _ _ _ _
    clear em8
    refine zw_R zr_38_33 (by decide) zm_38 (v := (9, 0)) rfl ?_
    rw [← hQ]; exact ⟨rfl, hIm8, hFm8⟩

abbrev W_111 : List (Nat × Nat) := [(42, 0), (42, 1), (43, 5), (44, 1000), (45, 1), (45, 5), (45, 6), (45, 7), (45, 8), (45, 9), (46, 1000), (47, 1000), (48, 1000), (49, 1000), (50, 1000), (51, 1000)]
set_option maxHeartbeats 8000000 in
theorem th_111 {E : zE} {d : Nat} {m0 : zM} {a0 : Int} {a1 : Int} {a2 : Int} (hd : 96 ≤ d) (hI0 : zInv m0) (ha0 : (-2147483648) ≤ a0 ∧ a0 ≤ 2147483647) (ha1 : (-2147483648) ≤ a1 ∧ a1 ≤ 2147483647) (ha2 : (-2147483648) ≤ a2 ∧ a2 ≤ 2147483647) : zC E d 111 [(2, 0), (0, a0), (0, a1), (0, a2)] m0 (fun v m' => ∃ r : Int, v = (0, r) ∧ (-2) ≤ r ∧ r ≤ 1 ∧ zInv m' ∧ zFr W_111 m0 m') := by
  have hF0 : zFr W_111 m0 m0 := zFr.rfl
  generalize hQ : (fun (v : zV) (m' : zM) => ∃ r : Int, v = (0, r) ∧ (-2) ≤ r ∧ r ≤ 1 ∧ zInv m' ∧ zFr W_111 m0 m') = Q
  show zW E d 111 0 [(2, 0), (0, a0), (0, a1), (0, a2), (9, 0)] [] m0 Q
  refine zw_3 zr_111_0 rfl ?_
  refine zw_C zr_111_1 (Or.inr rfl) zm_104 rfl rfl ⟨Nat.le_of_ble_eq_true rfl, Nat.le_of_ble_eq_true rfl, Nat.le_of_ble_eq_true rfl, rfl, by decide⟩ (by omega) (P := (fun v m' => zW E (d) 111 4 [(2, 0), (0, a0), (0, a1), (0, a2), (9, 0)] (if v.1 = 9 then [] else v :: []) m' Q)) ?_ (fun _ _ h => h)
  generalize hQ1 : (fun v m' => zW E (d) 111 4 [(2, 0), (0, a0), (0, a1), (0, a2), (9, 0)] (if v.1 = 9 then [] else v :: []) m' Q) = Q1
  show zW E (d - 1) 104 0 [(0, a0)] [] m0 Q1
  refine zw_3 zr_104_0 rfl ?_
  refine zw_push zr_104_1 ?_
  refine zw_push zr_104_2 ?_
  refine zw_C zr_104_3 (Or.inr rfl) zm_100 rfl rfl ⟨Nat.le_of_ble_eq_true rfl, Nat.le_of_ble_eq_true rfl, Nat.le_of_ble_eq_true rfl, rfl, by decide⟩ (by omega) (P := (fun v m' => zW E (d - 1) 104 6 [(0, a0)] (if v.1 = 9 then [] else v :: []) m' Q1)) ?_ (fun _ _ h => h)
  generalize hQ2 : (fun v m' => zW E (d - 1) 104 6 [(0, a0)] (if v.1 = 9 then [] else v :: []) m' Q1) = Q2
  show zW E (d - 1 - 1) 100 0 [(0, a0), (0, 0), (0, 3)] [] m0 Q2
  refine zw_3 zr_100_0 rfl ?_
  refine zw_3 zr_100_1 rfl ?_
  refine zw_41_0 zr_100_2 ?_ ?_
  · intro h1
    refine zw_push zr_100_14 ?_
    refine zw_R zr_100_15 (by decide) zm_100 (v := (0, 0)) (zRetB (by omega)) ?_
    rw [← hQ2]
    show zW E (d - 1) 104 6 [(0, a0)] [(0, 0)] m0 Q1
    refine zw_R zr_104_6 (by decide) zm_104 (v := (0, 0)) (zRetB (by omega)) ?_
    rw [← hQ1]
    show zW E (d) 111 4 [(2, 0), (0, a0), (0, a1), (0, a2), (9, 0)] [(0, 0)] m0 Q
    refine zw_40_1 zr_111_4 ?_ ?_
    · intro h2
      refine zw_push zr_111_26 ?_
      refine zw_R zr_111_28 (by decide) zm_111 (v := (0, (-2))) rfl ?_
      rw [← hQ]; exact ⟨_, rfl, by omega, by omega, hI0, hF0⟩
    · intro h3; omega
  · intro h4
    refine zw_3 zr_100_5 rfl ?_
    refine zw_3 zr_100_6 rfl ?_
    refine zw_41_2 zr_100_7 ?_ ?_
    · intro h5
      refine zw_push zr_100_14 ?_
      refine zw_R zr_100_15 (by decide) zm_100 (v := (0, 0)) (zRetB (by omega)) ?_
      rw [← hQ2]
      show zW E (d - 1) 104 6 [(0, a0)] [(0, 0)] m0 Q1
      refine zw_R zr_104_6 (by decide) zm_104 (v := (0, 0)) (zRetB (by omega)) ?_
      rw [← hQ1]
      show zW E (d) 111 4 [(2, 0), (0, a0), (0, a1), (0, a2), (9, 0)] [(0, 0)] m0 Q
      refine zw_40_1 zr_111_4 ?_ ?_
      · intro h6
        refine zw_push zr_111_26 ?_
        refine zw_R zr_111_28 (by decide) zm_111 (v := (0, (-2))) rfl ?_
        rw [← hQ]; exact ⟨_, rfl, by omega, by omega, hI0, hF0⟩
      · intro h7; omega
    · intro h8
      refine zw_push zr_100_10 ?_
      refine zw_42 zr_100_11 ?_
      refine zw_R zr_100_15 (by decide) zm_100 (v := (0, 1)) (zRetB (by omega)) ?_
      rw [← hQ2]
      show zW E (d - 1) 104 6 [(0, a0)] [(0, 1)] m0 Q1
      refine zw_R zr_104_6 (by decide) zm_104 (v := (0, 1)) (zRetB (by omega)) ?_
      rw [← hQ1]
      show zW E (d) 111 4 [(2, 0), (0, a0), (0, a1), (0, a2), (9, 0)] [(0, 1)] m0 Q
      refine zw_40_1 zr_111_4 ?_ ?_
      · intro h9; omega
      · intro h10
        refine zw_3 zr_111_7 rfl ?_
        refine zw_C zr_111_8 (Or.inr rfl) zm_101 rfl rfl ⟨Nat.le_of_ble_eq_true rfl, Nat.le_of_ble_eq_true rfl, Nat.le_of_ble_eq_true rfl, rfl, by decide⟩ (by omega) (P := (fun v m' => zW E (d) 111 11 [(2, 0), (0, a0), (0, a1), (0, a2), (9, 0)] (if v.1 = 9 then [] else v :: []) m' Q)) ?_ (fun _ _ h => h)
        generalize hQ1 : (fun v m' => zW E (d) 111 11 [(2, 0), (0, a0), (0, a1), (0, a2), (9, 0)] (if v.1 = 9 then [] else v :: []) m' Q) = Q1
        show zW E (d - 1) 101 0 [(0, a1)] [] m0 Q1
        refine zw_3 zr_101_0 rfl ?_
        refine zw_push zr_101_1 ?_
        refine zw_push zr_101_2 ?_
        refine zw_C zr_101_4 (Or.inr rfl) zm_100 rfl rfl ⟨Nat.le_of_ble_eq_true rfl, Nat.le_of_ble_eq_true rfl, Nat.le_of_ble_eq_true rfl, rfl, by decide⟩ (by omega) (P := (fun v m' => zW E (d - 1) 101 7 [(0, a1)] (if v.1 = 9 then [] else v :: []) m' Q1)) ?_ (fun _ _ h => h)
        generalize hQ2 : (fun v m' => zW E (d - 1) 101 7 [(0, a1)] (if v.1 = 9 then [] else v :: []) m' Q1) = Q2
        show zW E (d - 1 - 1) 100 0 [(0, a1), (0, 0), (0, 99)] [] m0 Q2
        refine zw_3 zr_100_0 rfl ?_
        refine zw_3 zr_100_1 rfl ?_
        refine zw_41_0 zr_100_2 ?_ ?_
        · intro h11
          refine zw_push zr_100_14 ?_
          refine zw_R zr_100_15 (by decide) zm_100 (v := (0, 0)) (zRetB (by omega)) ?_
          rw [← hQ2]
          show zW E (d - 1) 101 7 [(0, a1)] [(0, 0)] m0 Q1
          refine zw_R zr_101_7 (by decide) zm_101 (v := (0, 0)) (zRetB (by omega)) ?_
          rw [← hQ1]
          show zW E (d) 111 11 [(2, 0), (0, a0), (0, a1), (0, a2), (9, 0)] [(0, 0)] m0 Q
          refine zw_40_1 zr_111_11 ?_ ?_
          · intro h12
            refine zw_push zr_111_26 ?_
            refine zw_R zr_111_28 (by decide) zm_111 (v := (0, (-2))) rfl ?_
            rw [← hQ]; exact ⟨_, rfl, by omega, by omega, hI0, hF0⟩
          · intro h13; omega
        · intro h14
          refine zw_3 zr_100_5 rfl ?_
          refine zw_3 zr_100_6 rfl ?_
          refine zw_41_2 zr_100_7 ?_ ?_
          · intro h15
            refine zw_push zr_100_14 ?_
            refine zw_R zr_100_15 (by decide) zm_100 (v := (0, 0)) (zRetB (by omega)) ?_
            rw [← hQ2]
            show zW E (d - 1) 101 7 [(0, a1)] [(0, 0)] m0 Q1
            refine zw_R zr_101_7 (by decide) zm_101 (v := (0, 0)) (zRetB (by omega)) ?_
            rw [← hQ1]
            show zW E (d) 111 11 [(2, 0), (0, a0), (0, a1), (0, a2), (9, 0)] [(0, 0)] m0 Q
            refine zw_40_1 zr_111_11 ?_ ?_
            · intro h16
              refine zw_push zr_111_26 ?_
              refine zw_R zr_111_28 (by decide) zm_111 (v := (0, (-2))) rfl ?_
              rw [← hQ]; exact ⟨_, rfl, by omega, by omega, hI0, hF0⟩
            · intro h17; omega
          · intro h18
            refine zw_push zr_100_10 ?_
            refine zw_42 zr_100_11 ?_
            refine zw_R zr_100_15 (by decide) zm_100 (v := (0, 1)) (zRetB (by omega)) ?_
            rw [← hQ2]
            show zW E (d - 1) 101 7 [(0, a1)] [(0, 1)] m0 Q1
            refine zw_R zr_101_7 (by decide) zm_101 (v := (0, 1)) (zRetB (by omega)) ?_
            rw [← hQ1]
            show zW E (d) 111 11 [(2, 0), (0, a0), (0, a1), (0, a2), (9, 0)] [(0, 1)] m0 Q
            refine zw_40_1 zr_111_11 ?_ ?_
            · intro h19; omega
            · intro h20
              refine zw_3 zr_111_14 rfl ?_
              refine zw_C zr_111_15 (Or.inr rfl) zm_101 rfl rfl ⟨Nat.le_of_ble_eq_true rfl, Nat.le_of_ble_eq_true rfl, Nat.le_of_ble_eq_true rfl, rfl, by decide⟩ (by omega) (P := (fun v m' => zW E (d) 111 18 [(2, 0), (0, a0), (0, a1), (0, a2), (9, 0)] (if v.1 = 9 then [] else v :: []) m' Q)) ?_ (fun _ _ h => h)
              generalize hQ1 : (fun v m' => zW E (d) 111 18 [(2, 0), (0, a0), (0, a1), (0, a2), (9, 0)] (if v.1 = 9 then [] else v :: []) m' Q) = Q1
              show zW E (d - 1) 101 0 [(0, a2)] [] m0 Q1
              refine zw_3 zr_101_0 rfl ?_
              refine zw_push zr_101_1 ?_
              refine zw_push zr_101_2 ?_
              refine zw_C zr_101_4 (Or.inr rfl) zm_100 rfl rfl ⟨Nat.le_of_ble_eq_true rfl, Nat.le_of_ble_eq_true rfl, Nat.le_of_ble_eq_true rfl, rfl, by decide⟩ (by omega) (P := (fun v m' => zW E (d - 1) 101 7 [(0, a2)] (if v.1 = 9 then [] else v :: []) m' Q1)) ?_ (fun _ _ h => h)
              generalize hQ2 : (fun v m' => zW E (d - 1) 101 7 [(0, a2)] (if v.1 = 9 then [] else v :: []) m' Q1) = Q2
              show zW E (d - 1 - 1) 100 0 [(0, a2), (0, 0), (0, 99)] [] m0 Q2
              refine zw_3 zr_100_0 rfl ?_
              refine zw_3 zr_100_1 rfl ?_
              refine zw_41_0 zr_100_2 ?_ ?_
              · intro h21
                refine zw_push zr_100_14 ?_
                refine zw_R zr_100_15 (by decide) zm_100 (v := (0, 0)) (zRetB (by omega)) ?_
                rw [← hQ2]
                show zW E (d - 1) 101 7 [(0, a2)] [(0, 0)] m0 Q1
                refine zw_R zr_101_7 (by decide) zm_101 (v := (0, 0)) (zRetB (by omega)) ?_
                rw [← hQ1]
                show zW E (d) 111 18 [(2, 0), (0, a0), (0, a1), (0, a2), (9, 0)] [(0, 0)] m0 Q
                refine zw_40_1 zr_111_18 ?_ ?_
                · intro h22
                  refine zw_push zr_111_26 ?_
                  refine zw_R zr_111_28 (by decide) zm_111 (v := (0, (-2))) rfl ?_
                  rw [← hQ]; exact ⟨_, rfl, by omega, by omega, hI0, hF0⟩
                · intro h23; omega
              · intro h24
                refine zw_3 zr_100_5 rfl ?_
                refine zw_3 zr_100_6 rfl ?_
                refine zw_41_2 zr_100_7 ?_ ?_
                · intro h25
                  refine zw_push zr_100_14 ?_
                  refine zw_R zr_100_15 (by decide) zm_100 (v := (0, 0)) (zRetB (by omega)) ?_
                  rw [← hQ2]
                  show zW E (d - 1) 101 7 [(0, a2)] [(0, 0)] m0 Q1
                  refine zw_R zr_101_7 (by decide) zm_101 (v := (0, 0)) (zRetB (by omega)) ?_
                  rw [← hQ1]
                  show zW E (d) 111 18 [(2, 0), (0, a0), (0, a1), (0, a2), (9, 0)] [(0, 0)] m0 Q
                  refine zw_40_1 zr_111_18 ?_ ?_
                  · intro h26
                    refine zw_push zr_111_26 ?_
                    refine zw_R zr_111_28 (by decide) zm_111 (v := (0, (-2))) rfl ?_
                    rw [← hQ]; exact ⟨_, rfl, by omega, by omega, hI0, hF0⟩
                  · intro h27; omega
                · intro h28
                  refine zw_push zr_100_10 ?_
                  refine zw_42 zr_100_11 ?_
                  refine zw_R zr_100_15 (by decide) zm_100 (v := (0, 1)) (zRetB (by omega)) ?_
                  rw [← hQ2]
                  show zW E (d - 1) 101 7 [(0, a2)] [(0, 1)] m0 Q1
                  refine zw_R zr_101_7 (by decide) zm_101 (v := (0, 1)) (zRetB (by omega)) ?_
                  rw [← hQ1]
                  show zW E (d) 111 18 [(2, 0), (0, a0), (0, a1), (0, a2), (9, 0)] [(0, 1)] m0 Q
                  refine zw_40_1 zr_111_18 ?_ ?_
                  · intro h29; omega
                  · intro h30
                    refine zw_3 zr_111_21 rfl ?_
                    refine zw_3 zr_111_22 rfl ?_
                    refine zw_41_2 zr_111_23 ?_ ?_
                    · intro h31
                      refine zw_7 zr_111_29 rfl ?_
                      refine zw_46r (s := 1) zr_111_30 rfl rfl rfl rfl ?_
                      refine zw_3 zr_111_33 rfl ?_
                      refine zw_C zr_111_34 (Or.inl rfl) zm_55 rfl rfl ⟨Nat.le_of_ble_eq_true rfl, Nat.le_of_ble_eq_true rfl, Nat.le_of_ble_eq_true rfl, rfl, by decide⟩ (by omega) (th_55 (d := d - 1) (by omega) hI0 (a0 := a1)      (by omega) ) ?_
                      rintro _ _ ⟨r32, rfl, hr32a, hr32b, rfl⟩
                      show zW E (d) 111 37 [(2, 0), (0, a0), (0, a1), (0, a2), (9, 0)] [(0, r32)] m0 Q
                      refine zw_7 zr_111_37 rfl ?_
                      refine zw_46r (s := 1) zr_111_38 rfl rfl rfl rfl ?_
                      refine zw_3 zr_111_41 rfl ?_
                      refine zw_C zr_111_42 (Or.inl rfl) zm_55 rfl rfl ⟨Nat.le_of_ble_eq_true rfl, Nat.le_of_ble_eq_true rfl, Nat.le_of_ble_eq_true rfl, rfl, by decide⟩ (by omega) (th_55 (d := d - 1) (by omega) hI0 (a0 := a2)      (by omega) ) ?_
                      rintro _ _ ⟨r33, rfl, hr33a, hr33b, rfl⟩
                      show zW E (d) 111 45 [(2, 0), (0, a0), (0, a1), (0, a2), (9, 0)] [(0, r33), (0, r32)] m0 Q
                      refine zw_21h zr_111_45 ?_
                      intro x34 hx34a hx34b
                      refine zw_10 (L' := [(2, 0), (0, a0), (0, a1), (0, a2), (0, x34)]) zr_111_46 (Nat.le_of_ble_eq_true rfl) rfl ?_
                      refine zw_4 zr_111_48 rfl ?_
                      refine zw_40_4 zr_111_50 ?_ ?_
                      · intro h35
                        refine zw_7 zr_111_55 rfl ?_
                        refine zw_46r (s := 42) zr_111_56 rfl rfl rfl rfl ?_
                        refine zw_7 zr_111_59 rfl ?_
                        refine zw_46r (s := 43) zr_111_60 rfl rfl rfl rfl ?_
                        refine zw_3 zr_111_63 rfl ?_
                        refine zw_3 zr_111_64 rfl ?_
                        refine zw_3 zr_111_65 rfl ?_
                        refine zw_4 zr_111_66 rfl ?_
                        obtain ⟨f36, ef36⟩ : ∃ v, m0 1 1 = v := ⟨_, rfl⟩
                        have bf36 := ib_1_1 hI0
                        rw [ef36] at bf36
                        obtain ⟨f37, ef37⟩ : ∃ v, m0 1 2 = v := ⟨_, rfl⟩
                        have bf37 := ib_1_2 hI0
                        rw [ef37] at bf37
                        refine zw_C zr_111_68 (Or.inl rfl) zm_43 rfl rfl ⟨Nat.le_of_ble_eq_true rfl, Nat.le_of_ble_eq_true rfl, Nat.le_of_ble_eq_true rfl, rfl, by decide⟩ (by omega) (th_43 (d := d - 1) (by omega) hI0 (a0 := a0) (a1 := a1) (a2 := a2) (a3 := x34) (g0 := f36) (g1 := f37)  (F5 := m0 5) (F6 := m0 6) (F7 := m0 7) (F8 := m0 8) (F10 := m0 10) (F11 := m0 11) (F44 := m0 44) (F48 := m0 48) (F50 := m0 50) (F51 := m0 51) (F9 := m0 9) ef36 ef37 rfl rfl rfl rfl rfl rfl rfl rfl rfl rfl rfl (by omega) (by omega) (by omega) (by omega) ) ?_
                        rintro _ m38 ⟨r39, rfl, hr39a, hr39b, hIm38, gm38⟩
                        have hFm38 : zFr W_111 m0 m38 := hF0.trans gm38 rfl
                        have km38_1_1 : m38 1 1 = f36 := (gm38 1 1 rfl).trans ef36
                        have km38_1_2 : m38 1 2 = f37 := (gm38 1 2 rfl).trans ef37
                        show zW E (d) 111 71 [(2, 0), (0, a0), (0, a1), (0, a2), (0, x34)] [(0, r39), (2, 42)] m38 Q
                        refine zw_36 zr_111_71 ?_
                        refine zw_4 zr_111_72 rfl ?_
                        refine zw_C zr_111_74 (Or.inr rfl) zm_29 rfl rfl ⟨Nat.le_of_ble_eq_true rfl, Nat.le_of_ble_eq_true rfl, Nat.le_of_ble_eq_true rfl, rfl, by decide⟩ (by omega) (th_29 (d := d - 1) (by omega) hIm38 (a0 := x34)      (by omega) ) ?_
                        rintro _ _ ⟨r40, rfl, hr40a, hr40b, rfl⟩
                        show zW E (d) 111 77 [(2, 0), (0, a0), (0, a1), (0, a2), (0, x34)] [(0, r40), (1, r39), (2, 42)] m38 Q
                        refine zw_36 zr_111_77 ?_
                        refine zw_C zr_111_78 (Or.inl rfl) zm_38 rfl rfl ⟨Nat.le_of_ble_eq_true rfl, Nat.le_of_ble_eq_true rfl, Nat.le_of_ble_eq_true rfl, rfl, by decide⟩ (by omega) (th_38 (d := d - 1) (by omega) hIm38 (a0 := r39) (a1 := r40)      (by omega) (by omega) ) ?_
                        rintro _ m41 ⟨rfl, hIm41, gm41⟩
                        have hFm41 : zFr W_111 m0 m41 := hFm38.trans gm41 rfl
                        have km41_1_1 : m41 1 1 = f36 := (gm41 1 1 rfl).trans km38_1_1
                        have km41_1_2 : m41 1 2 = f37 := (gm41 1 2 rfl).trans km38_1_2
                        show zW E (d) 111 81 [(2, 0), (0, a0), (0, a1), (0, a2), (0, x34)] [] m41 Q
                        refine zw_push zr_111_81 ?_
                        refine zw_R zr_111_82 (by decide) zm_111 (v := (0, 1)) rfl ?_
                        rw [← hQ]; exact ⟨_, rfl, by omega, by omega, hIm41, hFm41⟩
                      · intro h42
                        refine zw_push zr_111_53 ?_
                        refine zw_R zr_111_54 (by decide) zm_111 (v := (0, 0)) rfl ?_
                        rw [← hQ]; exact ⟨_, rfl, by omega, by omega, hI0, hF0⟩
                    · intro h43
                      refine zw_push zr_111_26 ?_
                      refine zw_R zr_111_28 (by decide) zm_111 (v := (0, (-2))) rfl ?_
                      rw [← hQ]; exact ⟨_, rfl, by omega, by omega, hI0, hF0⟩

abbrev W_167 : List (Nat × Nat) := [(69, 5), (69, 6), (69, 7), (69, 9), (69, 11), (69, 13), (69, 17), (69, 18), (73, 1000), (74, 1000), (75, 1000), (76, 1000), (77, 1000), (78, 1000)]
set_option maxHeartbeats 8000000 in
theorem th_167 {E : zE} {d : Nat} {m0 : zM} {a0 : Int} {a1 : Int} {g0 : Int} {F70 : Nat → Int} {F76 : Nat → Int} {F77 : Nat → Int} {F78 : Nat → Int} (hd : 6 ≤ d) (hI0 : zInv m0) (hg0 : m0 70 823 = g0) (hG70 : m0 70 = F70) (hG76 : m0 76 = F76) (hG77 : m0 77 = F77) (hG78 : m0 78 = F78) (ha0 : 0 ≤ a0 ∧ a0 ≤ 3) (ha1 : 0 ≤ a1 ∧ a1 ≤ 99) : zC E d 167 [(2, 69), (0, a0), (0, a1)] m0 (fun v m' => v = (9, 0) ∧ zInv m' ∧ zFr W_167 m0 m' ∧ (zGt (psr (cht F70 a0) (fun i => F70 (91 + 6 * i)) (fun i => F70 (92 + 6 * i)) (fun i => F70 (93 + 6 * i)) (fun i => F70 (90 + 6 * i)) (fun i => F70 (94 + 6 * i))) (F70 (450 + 52 * a0).toNat) (fun i => F70 (90 + 6 * i)) a1 g0 (m' 76, m' 77, m' 78))) := by
  have hF0 : zFr W_167 m0 m0 := zFr.rfl
  have bg0 : 0 ≤ m0 70 823 ∧ m0 70 823 ≤ 60 := ib_70_meetings hI0 (by omega)
  rw [hg0] at bg0
  generalize hQ : (fun (v : zV) (m' : zM) => v = (9, 0) ∧ zInv m' ∧ zFr W_167 m0 m' ∧ (zGt (psr (cht F70 a0) (fun i => F70 (91 + 6 * i)) (fun i => F70 (92 + 6 * i)) (fun i => F70 (93 + 6 * i)) (fun i => F70 (90 + 6 * i)) (fun i => F70 (94 + 6 * i))) (F70 (450 + 52 * a0).toNat) (fun i => F70 (90 + 6 * i)) a1 g0 (m' 76, m' 77, m' 78))) = Q
  show zW E d 167 0 [(2, 69), (0, a0), (0, a1), (9, 0)] [] m0 Q
  refine zw_7 zr_167_0 rfl ?_
  refine zw_3 zr_167_1 rfl ?_
  refine zw_C zr_167_2 (Or.inl rfl) zm_164 rfl rfl ⟨Nat.le_of_ble_eq_true rfl, Nat.le_of_ble_eq_true rfl, Nat.le_of_ble_eq_true rfl, rfl, by decide⟩ (by omega) (th_164 (d := d - 1) (by omega) hI0 (a0 := a0)   (F70 := F70) (F76 := F76) (F77 := F77) (F78 := F78)  hG70 hG76 hG77 hG78 (by omega) ) ?_
  rintro _ m1 ⟨rfl, hIm1, gm1, po0_m1⟩
  have hFm1 : zFr W_167 m0 m1 := hF0.trans gm1 rfl
  have km1_70_823 : m1 70 823 = g0 := (gm1 70 823 rfl).trans hg0
  have fm1_70 : m1 70 = F70 := (funext fun k => gm1 70 k rfl).trans hG70
  obtain ⟨f2, fm1_76⟩ : ∃ f, m1 76 = f := ⟨_, rfl⟩
  try rw [fm1_76] at po0_m1
  obtain ⟨f3, fm1_77⟩ : ∃ f, m1 77 = f := ⟨_, rfl⟩
  try rw [fm1_77] at po0_m1
  obtain ⟨f4, fm1_78⟩ : ∃ f, m1 78 = f := ⟨_, rfl⟩
  try rw [fm1_78] at po0_m1
  show zW E (d) 167 5 [(2, 69), (0, a0), (0, a1), (9, 0)] [] m1 Q
  have hV : 0 ≤ F70 (450 + 52 * a0).toNat ∧ F70 (450 + 52 * a0).toNat ≤ 9999 ∧ (0 : Int) = 0 := by have z := ib_70_s0 hI0 (k := (450 + 52 * a0).toNat) (by omega); rw [hG70] at z; omega
  refine zw_push zr_167_5 ?_
  refine zw_9 (L' := [(2, 69), (0, a0), (0, a1), (0, 0)]) zr_167_6 (Nat.le_of_ble_eq_true rfl) rfl ?_
  have lp7_11 : ∀ (nlp7_11 : Nat) (i6 : Int) (f8 : Nat → Int) (f9 : Nat → Int) (f10 : Nat → Int) (m7 : zM), zInv m7 → zFr W_167 m0 m7 → m7 70 823 = g0 → m7 70 = F70 → m7 76 = f8 → m7 77 = f9 → m7 78 = f10 → 0 ≤ i6 → i6 ≤ 60 → (zRn (psr (cht F70 a0) (fun i => F70 (91 + 6 * i)) (fun i => F70 (92 + 6 * i)) (fun i => F70 (93 + 6 * i)) (fun i => F70 (90 + 6 * i)) (fun i => F70 (94 + 6 * i))) (fun _ => 1) (F70 (450 + 52 * a0).toNat) (f8, f9, f10) i6) → (zPb (f8, f9, f10) i6) → (zYr (fun i => F70 (90 + 6 * i)) a1 i6) → (i6 ≤ g0) → (60 - i6).toNat < nlp7_11 → zW E (d) 167 7 [(2, 69), (0, a0), (0, a1), (0, i6)] [] m7 Q := by
    intro nlp7_11
    induction nlp7_11 with
    | zero =>
      intros
      exact absurd (by assumption : _ < 0) (Nat.not_lt_zero _)
    | succ nlp7_11 ihlp7_11 =>
      intro i6 f8 f9 f10 m7 hIm7 hFm7 km7_70_823 fm7_70 fm7_76 fm7_77 fm7_78 li6 ui6 hv0lp7_11 hv1lp7_11 hv2lp7_11 hv3lp7_11 hmlp7_11
      refine zw_3 zr_167_7 rfl ?_
      refine zw_7 zr_167_8 rfl ?_
      refine zw_C zr_167_9 (Or.inl rfl) zm_142 rfl rfl ⟨Nat.le_of_ble_eq_true rfl, Nat.le_of_ble_eq_true rfl, Nat.le_of_ble_eq_true rfl, rfl, by decide⟩ (by omega) (P := (fun v m' => zW E (d) 167 12 [(2, 69), (0, a0), (0, a1), (0, i6)] (if v.1 = 9 then [(0, i6)] else v :: [(0, i6)]) m' Q)) ?_ (fun _ _ h => h)
      generalize hQ1 : (fun v m' => zW E (d) 167 12 [(2, 69), (0, a0), (0, a1), (0, i6)] (if v.1 = 9 then [(0, i6)] else v :: [(0, i6)]) m' Q) = Q1
      show zW E (d - 1) 142 0 [(2, 69)] [] m7 Q1
      refine zw_7 zr_142_0 rfl ?_
      refine zw_46r (s := 70) zr_142_1 rfl rfl rfl rfl ?_
      refine zw_push zr_142_4 ?_
      refine zw_48k (c := 70) (len := 826) zr_142_7 rfl rfl (by omega) (by omega) (show (823 : Int).toNat = 823 by omega) km7_70_823 ?_
      refine zw_R zr_142_8 (by decide) zm_142 (v := (0, g0)) rfl ?_
      rw [← hQ1]
      show zW E (d) 167 12 [(2, 69), (0, a0), (0, a1), (0, i6)] [(0, g0), (0, i6)] m7 Q
      refine zw_41_3 zr_167_12 ?_ ?_
      · intro h13
        refine zw_R zr_167_37 (by decide) zm_167 (v := (9, 0)) rfl ?_
        rw [← hQ]; exact ⟨rfl, hIm7, hFm7, by rw [fm7_76, fm7_77, fm7_78]; first | exact zGt_m hv0lp7_11 hv2lp7_11 hv1lp7_11 (by omega) (Or.inl (by omega)) | exact zGt_m hv0lp7_11 hv2lp7_11 hv1lp7_11 (by omega) (Or.inr (by show a1 < F70 (90 + 6 * (i6).toNat); omega))⟩
      · intro h15
        refine zw_7 zr_167_15 rfl ?_
        refine zw_3 zr_167_16 rfl ?_
        refine zw_push zr_167_17 ?_
        refine zw_C zr_167_18 (Or.inl rfl) zm_144 rfl rfl ⟨Nat.le_of_ble_eq_true rfl, Nat.le_of_ble_eq_true rfl, Nat.le_of_ble_eq_true rfl, rfl, by decide⟩ (by omega) (P := (fun v m' => zW E (d) 167 21 [(2, 69), (0, a0), (0, a1), (0, i6)] (if v.1 = 9 then [] else v :: []) m' Q)) ?_ (fun _ _ h => h)
        generalize hQ1 : (fun v m' => zW E (d) 167 21 [(2, 69), (0, a0), (0, a1), (0, i6)] (if v.1 = 9 then [] else v :: []) m' Q) = Q1
        show zW E (d - 1) 144 0 [(2, 69), (0, i6), (0, 0)] [] m7 Q1
        refine zw_7 zr_144_0 rfl ?_
        refine zw_46r (s := 70) zr_144_1 rfl rfl rfl rfl ?_
        refine zw_push zr_144_4 ?_
        refine zw_push zr_144_6 ?_
        refine zw_3 zr_144_8 rfl ?_
        refine zw_18 zr_144_9 (by omega) ?_
        refine zw_16 zr_144_10 (by omega) ?_
        refine zw_3 zr_144_11 rfl ?_
        refine zw_16 zr_144_12 (by omega) ?_
        refine zw_48 (c := 70) (len := 826) zr_144_13 rfl rfl (by omega) (by omega) ?_
        intro x16 ex16
        have bx16 := ib_70_m0 hIm7 (k := (((90 + (6 * i6)) + 0)).toNat) (by omega)
        rw [← ex16] at bx16
        have qx16 : x16 = F70 (((90 + (6 * i6)) + 0)).toNat := by rw [← fm7_70]; exact ex16
        clear ex16
        refine zw_R zr_144_14 (by decide) zm_144 (v := (0, x16)) rfl ?_
        rw [← hQ1]
        show zW E (d) 167 21 [(2, 69), (0, a0), (0, a1), (0, i6)] [(0, x16)] m7 Q
        refine zw_3 zr_167_21 rfl ?_
        have hY : x16 = F70 (90 + 6 * (i6).toNat) := qx16.trans (congrArg F70 (by omega))
        refine zw_41_2 zr_167_22 ?_ ?_
        · intro h18
          refine zw_R zr_167_37 (by decide) zm_167 (v := (9, 0)) rfl ?_
          rw [← hQ]; exact ⟨rfl, hIm7, hFm7, by rw [fm7_76, fm7_77, fm7_78]; first | exact zGt_m hv0lp7_11 hv2lp7_11 hv1lp7_11 (by omega) (Or.inl (by omega)) | exact zGt_m hv0lp7_11 hv2lp7_11 hv1lp7_11 (by omega) (Or.inr (by show a1 < F70 (90 + 6 * (i6).toNat); omega))⟩
        · intro h20
          refine zw_7 zr_167_25 rfl ?_
          refine zw_3 zr_167_26 rfl ?_
          refine zw_3 zr_167_27 rfl ?_
          refine zw_C zr_167_28 (Or.inl rfl) zm_166 rfl rfl ⟨Nat.le_of_ble_eq_true rfl, Nat.le_of_ble_eq_true rfl, Nat.le_of_ble_eq_true rfl, rfl, by decide⟩ (by omega) (th_166 (d := d - 1) (by omega) hIm7 (a0 := a0) (a1 := i6)  (gN := i6) (F70 := F70) (F76 := f8) (F77 := f9) (F78 := f10)  fm7_70 fm7_76 fm7_77 fm7_78 (by omega) (by omega) (hv1lp7_11) (by omega)) ?_
          rintro _ m23 ⟨rfl, hIm23, gm23, po0_m23, po1_m23, po2_m23⟩
          have hFm23 : zFr W_167 m0 m23 := hFm7.trans gm23 rfl
          have km23_70_823 : m23 70 823 = g0 := (gm23 70 823 rfl).trans km7_70_823
          have fm23_70 : m23 70 = F70 := (funext fun k => gm23 70 k rfl).trans fm7_70
          obtain ⟨f24, fm23_76⟩ : ∃ f, m23 76 = f := ⟨_, rfl⟩
          try rw [fm23_76] at po0_m23
          try rw [fm23_76] at po1_m23
          obtain ⟨f25, fm23_77⟩ : ∃ f, m23 77 = f := ⟨_, rfl⟩
          try rw [fm23_77] at po0_m23
          try rw [fm23_77] at po1_m23
          obtain ⟨f26, fm23_78⟩ : ∃ f, m23 78 = f := ⟨_, rfl⟩
          try rw [fm23_78] at po0_m23
          try rw [fm23_78] at po1_m23
          obtain ⟨f27, ef27⟩ : ∃ v, m23 69 17 = v := ⟨_, rfl⟩
          have bf27 := hIm23.fi (c := 69) (k := 17) rfl
          rw [ef27] at bf27
          rw [ef27] at po0_m23
          rw [ef27] at po2_m23
          obtain ⟨f28, ef28⟩ : ∃ v, m23 69 18 = v := ⟨_, rfl⟩
          have bf28 := hIm23.fi (c := 69) (k := 18) rfl
          rw [ef28] at bf28
          rw [ef28] at po0_m23
          rw [ef28] at po2_m23
          show zW E (d) 167 31 [(2, 69), (0, a0), (0, a1), (0, i6)] [] m23 Q
          refine zw_15 (c := 1) (L' := [(2, 69), (0, a0), (0, a1), (0, (i6 + 1))]) zr_167_31 rfl (by decide) (by omega) rfl ?_
          refine zw_42 zr_167_34 ?_
          exact zw_less (L := [(2, 69), (0, a0), (0, a1), (0, (i6 + 1))]) ⟨Or.inr rfl, Or.inr rfl, Or.inr rfl, Or.inr rfl, trivial⟩ (ihlp7_11 ((i6 + 1)) (f24) (f25) (f26) m23 hIm23 hFm23  km23_70_823 fm23_70 fm23_76 fm23_77 fm23_78 (by omega) (by omega) (zRn_y hv0lp7_11 po0_m23 (by rfl) (by omega)) (po1_m23) (zYr_s hv2lp7_11 (Int.le_trans (Int.le_of_eq hY.symm) (by omega)) (by omega)) (by omega) (by omega))
  exact lp7_11 _ (0) (f2) (f3) (f4) m1 hIm1 hFm1  km1_70_823 fm1_70 fm1_76 fm1_77 fm1_78 (by omega) (by omega) (zRn_0 po0_m1 rfl) (zPb_r0 po0_m1 hV) (zYr_0) (by omega) (Nat.lt_succ_self _)

abbrev W_173 : List (Nat × Nat) := [(69, 3), (69, 4)]
set_option maxHeartbeats 8000000 in
theorem th_173 {E : zE} {d : Nat} {m0 : zM} {a0 : Int} {a1 : Int} (hd : 1 ≤ d) (hI0 : zInv m0) (ha0 : (-9223372036854775808) ≤ a0 ∧ a0 ≤ 9223372036854775807) (ha1 : 1 ≤ a1 ∧ a1 ≤ 9223372036854775807) : zC E d 173 [(2, 69), (1, a0), (1, a1)] m0 (fun v m' => v = (9, 0) ∧ zInv m' ∧ zFr W_173 m0 m') := by
  have hF0 : zFr W_173 m0 m0 := zFr.rfl
  generalize hQ : (fun (v : zV) (m' : zM) => v = (9, 0) ∧ zInv m' ∧ zFr W_173 m0 m') = Q
  show zW E d 173 0 [(2, 69), (1, a0), (9, 0), (1, a1), (9, 0), (9, 0), (9, 0), (9, 0), (9, 0), (9, 0), (9, 0)] [] m0 Q
  refine zw_5 zr_173_0 rfl ?_
  refine zw_push zr_173_1 ?_
  refine zw_39_3 zr_173_2 zr_173_3 ?_ ?_
  · intro h1
    refine zw_5 zr_173_11 rfl ?_
    refine zw_14 (L' := [(2, 69), (1, a0), (9, 0), (1, a1), (9, 0), (1, a0), (9, 0), (9, 0), (9, 0), (9, 0), (9, 0)]) zr_173_12 (Nat.le_of_ble_eq_true rfl) rfl ?_
    refine zw_5 zr_173_14 rfl ?_
    refine zw_14 (L' := [(2, 69), (1, a0), (9, 0), (1, a1), (9, 0), (1, a0), (9, 0), (1, a1), (9, 0), (9, 0), (9, 0)]) zr_173_15 (Nat.le_of_ble_eq_true rfl) rfl ?_
    have lp17_5 : ∀ (nlp17_5 : Nat) (i2 i3 : Int) (m4 : zM), zInv m4 → zFr W_173 m0 m4 → (-9223372036854775808) ≤ i2 → i2 ≤ 9223372036854775807 → (-9223372036854775808) ≤ i3 → i3 ≤ 9223372036854775807 → (i3 ≠ 0 ∨ i2 ≠ 0) → ((i3.natAbs : Int)).toNat < nlp17_5 → zW E (d) 173 17 [(2, 69), (1, a0), (9, 0), (1, a1), (9, 0), (1, i2), (9, 0), (1, i3), (9, 0), (9, 0), (9, 0)] [] m4 Q := by
      intro nlp17_5
      induction nlp17_5 with
      | zero =>
        intros
        exact absurd (by assumption : _ < 0) (Nat.not_lt_zero _)
      | succ nlp17_5 ihlp17_5 =>
        intro i2 i3 m4 hIm4 hFm4 li2 ui2 li3 ui3 hv0lp17_5 hmlp17_5
        refine zw_6 zr_173_17 rfl ?_
        refine zw_push zr_173_19 ?_
        refine zw_39_1 zr_173_20 zr_173_21 ?_ ?_
        · intro h7
          refine zw_7 zr_173_42 rfl ?_
          refine zw_5 zr_173_43 rfl ?_
          refine zw_6 zr_173_44 rfl ?_
          refine zw_118h zr_173_46 (by omega) ?_
          intro x8 hx8a hx8b
          refine zw_47 (c := 69) zr_173_47 rfl ⟨rfl, by decide, rfl⟩ ?_
          intro m9 em9
          have hIm9 : zInv m9 := by rw [em9]; exact hIm4.anyl (by omega) (by decide) rfl (by decide) (by decide)
          have hFm9 : zFr W_173 m0 m9 := by rw [em9]; exact hFm4.up rfl
          have km9_69_3 : m9 69 3 = x8 := by rw [em9]; exact zUp_eq _ _ _ _
          clear em9
          refine zw_7 zr_173_50 rfl ?_
          refine zw_5 zr_173_51 rfl ?_
          refine zw_6 zr_173_52 rfl ?_
          refine zw_118h zr_173_54 (by omega) ?_
          intro x10 hx10a hx10b
          refine zw_47 (c := 69) zr_173_55 rfl ⟨rfl, by decide, rfl⟩ ?_
          intro m11 em11
          have hIm11 : zInv m11 := by rw [em11]; exact hIm9.anyl (by omega) (by decide) rfl (by decide) (by decide)
          have hFm11 : zFr W_173 m0 m11 := by rw [em11]; exact hFm9.up rfl
          have km11_69_3 : m11 69 3 = x8 := by rw [em11, zUp_ne (by omega)]; exact km9_69_3
          have km11_69_4 : m11 69 4 = x10 := by rw [em11]; exact zUp_eq _ _ _ _
          clear em11
          refine zw_R zr_173_58 (by decide) zm_173 (v := (9, 0)) rfl ?_
          rw [← hQ]; exact ⟨rfl, hIm11, hFm11⟩
        · intro h12
          refine zw_6 zr_173_24 rfl ?_
          refine zw_6 zr_173_26 rfl ?_
          refine zw_119r zr_173_28 (by omega) (by omega) (by omega) ?_
          intro x13 hx13a hx13b hx13c
          refine zw_14 (L' := [(2, 69), (1, a0), (9, 0), (1, a1), (9, 0), (1, i2), (9, 0), (1, i3), (9, 0), (1, x13), (9, 0)]) zr_173_29 (Nat.le_of_ble_eq_true rfl) rfl ?_
          refine zw_6 zr_173_31 rfl ?_
          refine zw_14 (L' := [(2, 69), (1, a0), (9, 0), (1, a1), (9, 0), (1, i3), (9, 0), (1, i3), (9, 0), (1, x13), (9, 0)]) zr_173_33 (Nat.le_of_ble_eq_true rfl) rfl ?_
          refine zw_6 zr_173_35 rfl ?_
          refine zw_14 (L' := [(2, 69), (1, a0), (9, 0), (1, a1), (9, 0), (1, i3), (9, 0), (1, x13), (9, 0), (1, x13), (9, 0)]) zr_173_37 (Nat.le_of_ble_eq_true rfl) rfl ?_
          refine zw_42 zr_173_39 ?_
          exact zw_less (L := [(2, 69), (1, a0), (9, 0), (1, a1), (9, 0), (1, i3), (9, 0), (1, x13), (9, 0), (9, 0), (9, 0)]) ⟨Or.inr rfl, Or.inr rfl, Or.inl rfl, Or.inr rfl, Or.inl rfl, Or.inr rfl, Or.inl rfl, Or.inr rfl, Or.inl rfl, Or.inl rfl, Or.inl rfl, trivial⟩ (ihlp17_5 (i3) (x13) m4 hIm4 hFm4   (by omega) (by omega) (by omega) (by omega) (by omega) (by omega))
    exact lp17_5 _ (a0) (a1) m0 hI0 hF0   (by omega) (by omega) (by omega) (by omega) (by omega) (Nat.lt_succ_self _)
  · intro h14
    refine zw_5 zr_173_6 rfl ?_
    refine zw_117h zr_173_7 ?_
    intro x15 hx15a hx15b
    refine zw_42 zr_173_8 ?_
    refine zw_14 (L' := [(2, 69), (1, a0), (9, 0), (1, a1), (9, 0), (1, x15), (9, 0), (9, 0), (9, 0), (9, 0), (9, 0)]) zr_173_12 (Nat.le_of_ble_eq_true rfl) rfl ?_
    refine zw_5 zr_173_14 rfl ?_
    refine zw_14 (L' := [(2, 69), (1, a0), (9, 0), (1, a1), (9, 0), (1, x15), (9, 0), (1, a1), (9, 0), (9, 0), (9, 0)]) zr_173_15 (Nat.le_of_ble_eq_true rfl) rfl ?_
    have lp17_19 : ∀ (nlp17_19 : Nat) (i16 i17 : Int) (m18 : zM), zInv m18 → zFr W_173 m0 m18 → (-9223372036854775808) ≤ i16 → i16 ≤ 9223372036854775807 → (-9223372036854775808) ≤ i17 → i17 ≤ 9223372036854775807 → (i17 ≠ 0 ∨ i16 ≠ 0) → ((i17.natAbs : Int)).toNat < nlp17_19 → zW E (d) 173 17 [(2, 69), (1, a0), (9, 0), (1, a1), (9, 0), (1, i16), (9, 0), (1, i17), (9, 0), (9, 0), (9, 0)] [] m18 Q := by
      intro nlp17_19
      induction nlp17_19 with
      | zero =>
        intros
        exact absurd (by assumption : _ < 0) (Nat.not_lt_zero _)
      | succ nlp17_19 ihlp17_19 =>
        intro i16 i17 m18 hIm18 hFm18 li16 ui16 li17 ui17 hv0lp17_19 hmlp17_19
        refine zw_6 zr_173_17 rfl ?_
        refine zw_push zr_173_19 ?_
        refine zw_39_1 zr_173_20 zr_173_21 ?_ ?_
        · intro h21
          refine zw_7 zr_173_42 rfl ?_
          refine zw_5 zr_173_43 rfl ?_
          refine zw_6 zr_173_44 rfl ?_
          refine zw_118h zr_173_46 (by omega) ?_
          intro x22 hx22a hx22b
          refine zw_47 (c := 69) zr_173_47 rfl ⟨rfl, by decide, rfl⟩ ?_
          intro m23 em23
          have hIm23 : zInv m23 := by rw [em23]; exact hIm18.anyl (by omega) (by decide) rfl (by decide) (by decide)
          have hFm23 : zFr W_173 m0 m23 := by rw [em23]; exact hFm18.up rfl
          have km23_69_3 : m23 69 3 = x22 := by rw [em23]; exact zUp_eq _ _ _ _
          clear em23
          refine zw_7 zr_173_50 rfl ?_
          refine zw_5 zr_173_51 rfl ?_
          refine zw_6 zr_173_52 rfl ?_
          refine zw_118h zr_173_54 (by omega) ?_
          intro x24 hx24a hx24b
          refine zw_47 (c := 69) zr_173_55 rfl ⟨rfl, by decide, rfl⟩ ?_
          intro m25 em25
          have hIm25 : zInv m25 := by rw [em25]; exact hIm23.anyl (by omega) (by decide) rfl (by decide) (by decide)
          have hFm25 : zFr W_173 m0 m25 := by rw [em25]; exact hFm23.up rfl
          have km25_69_3 : m25 69 3 = x22 := by rw [em25, zUp_ne (by omega)]; exact km23_69_3
          have km25_69_4 : m25 69 4 = x24 := by rw [em25]; exact zUp_eq _ _ _ _
          clear em25
          refine zw_R zr_173_58 (by decide) zm_173 (v := (9, 0)) rfl ?_
          rw [← hQ]; exact ⟨rfl, hIm25, hFm25⟩
        · intro h26
          refine zw_6 zr_173_24 rfl ?_
          refine zw_6 zr_173_26 rfl ?_
          refine zw_119r zr_173_28 (by omega) (by omega) (by omega) ?_
          intro x27 hx27a hx27b hx27c
          refine zw_14 (L' := [(2, 69), (1, a0), (9, 0), (1, a1), (9, 0), (1, i16), (9, 0), (1, i17), (9, 0), (1, x27), (9, 0)]) zr_173_29 (Nat.le_of_ble_eq_true rfl) rfl ?_
          refine zw_6 zr_173_31 rfl ?_
          refine zw_14 (L' := [(2, 69), (1, a0), (9, 0), (1, a1), (9, 0), (1, i17), (9, 0), (1, i17), (9, 0), (1, x27), (9, 0)]) zr_173_33 (Nat.le_of_ble_eq_true rfl) rfl ?_
          refine zw_6 zr_173_35 rfl ?_
          refine zw_14 (L' := [(2, 69), (1, a0), (9, 0), (1, a1), (9, 0), (1, i17), (9, 0), (1, x27), (9, 0), (1, x27), (9, 0)]) zr_173_37 (Nat.le_of_ble_eq_true rfl) rfl ?_
          refine zw_42 zr_173_39 ?_
          exact zw_less (L := [(2, 69), (1, a0), (9, 0), (1, a1), (9, 0), (1, i17), (9, 0), (1, x27), (9, 0), (9, 0), (9, 0)]) ⟨Or.inr rfl, Or.inr rfl, Or.inl rfl, Or.inr rfl, Or.inl rfl, Or.inr rfl, Or.inl rfl, Or.inr rfl, Or.inl rfl, Or.inl rfl, Or.inl rfl, trivial⟩ (ihlp17_19 (i17) (x27) m18 hIm18 hFm18   (by omega) (by omega) (by omega) (by omega) (by omega) (by omega))
    exact lp17_19 _ (x15) (a1) m0 hI0 hF0   (by omega) (by omega) (by omega) (by omega) (by omega) (Nat.lt_succ_self _)

set_option maxHeartbeats 8000000 in
theorem th_172 {E : zE} {d : Nat} {m0 : zM} {a0 : Int} {a1 : Int} {F70 : Nat → Int} (hd : 3 ≤ d) (hI0 : zInv m0) (hG70 : m0 70 = F70) (ha0 : 0 ≤ a0 ∧ a0 ≤ 9) (ha1 : 0 ≤ a1 ∧ a1 ≤ 99) : zC E d 172 [(2, 69), (0, a0), (0, a1)] m0 (fun v m' => ∃ r : Int, v = (0, r) ∧ 0 ≤ r ∧ r ≤ 1 ∧ m0 = m' ∧ (r = hmv F70 a0 a1 (F70 823).toNat)) := by
  generalize hQ : (fun (v : zV) (m' : zM) => ∃ r : Int, v = (0, r) ∧ 0 ≤ r ∧ r ≤ 1 ∧ m0 = m' ∧ (r = hmv F70 a0 a1 (F70 823).toNat)) = Q
  show zW E d 172 0 [(2, 69), (0, a0), (0, a1), (9, 0), (9, 0)] [] m0 Q
  refine zw_push zr_172_0 ?_
  refine zw_9 (L' := [(2, 69), (0, a0), (0, a1), (0, 0), (9, 0)]) zr_172_1 (Nat.le_of_ble_eq_true rfl) rfl ?_
  refine zw_push zr_172_2 ?_
  refine zw_10 (L' := [(2, 69), (0, a0), (0, a1), (0, 0), (0, 0)]) zr_172_3 (Nat.le_of_ble_eq_true rfl) rfl ?_
  have lp5_3 : ∀ (nlp5_3 : Nat) (i1 i2 : Int), 0 ≤ i1 → i1 ≤ 1 → 0 ≤ i2 → i2 ≤ 60 → (i1 = hmv F70 a0 a1 (i2).toNat) → (i2 ≤ m0 70 823) → (60 - i2).toNat < nlp5_3 → zW E (d) 172 5 [(2, 69), (0, a0), (0, a1), (0, i1), (0, i2)] [] m0 Q := by
    intro nlp5_3
    induction nlp5_3 with
    | zero =>
      intros
      exact absurd (by assumption : _ < 0) (Nat.not_lt_zero _)
    | succ nlp5_3 ihlp5_3 =>
      intro i1 i2 li1 ui1 li2 ui2 hv0lp5_3 hv1lp5_3 hmlp5_3
      have z5 := zhm F70 a0 a1 (i2).toNat (i2 + 1).toNat ((90 + (6 * i2)) + 0).toNat ((90 + (6 * i2)) + 1).toNat ((90 + (6 * i2)) + 2).toNat (by omega) (by omega) (by omega) (by omega)
      refine zw_4 zr_172_5 rfl ?_
      refine zw_7 zr_172_7 rfl ?_
      refine zw_C zr_172_8 (Or.inl rfl) zm_142 rfl rfl ⟨Nat.le_of_ble_eq_true rfl, Nat.le_of_ble_eq_true rfl, Nat.le_of_ble_eq_true rfl, rfl, by decide⟩ (by omega) (P := (fun v m' => zW E (d) 172 11 [(2, 69), (0, a0), (0, a1), (0, i1), (0, i2)] (if v.1 = 9 then [(0, i2)] else v :: [(0, i2)]) m' Q)) ?_ (fun _ _ h => h)
      generalize hQ1 : (fun v m' => zW E (d) 172 11 [(2, 69), (0, a0), (0, a1), (0, i1), (0, i2)] (if v.1 = 9 then [(0, i2)] else v :: [(0, i2)]) m' Q) = Q1
      show zW E (d - 1) 142 0 [(2, 69)] [] m0 Q1
      refine zw_7 zr_142_0 rfl ?_
      refine zw_46r (s := 70) zr_142_1 rfl rfl rfl rfl ?_
      refine zw_push zr_142_4 ?_
      obtain ⟨f6, ef6⟩ : ∃ v, m0 70 823 = v := ⟨_, rfl⟩
      have bf6 : 0 ≤ m0 70 823 ∧ m0 70 823 ≤ 60 := ib_70_meetings hI0 (by omega)
      rw [ef6] at bf6
      refine zw_48k (c := 70) (len := 826) zr_142_7 rfl rfl (by omega) (by omega) (show (823 : Int).toNat = 823 by omega) ef6 ?_
      refine zw_R zr_142_8 (by decide) zm_142 (v := (0, f6)) rfl ?_
      rw [← hQ1]
      show zW E (d) 172 11 [(2, 69), (0, a0), (0, a1), (0, i1), (0, i2)] [(0, f6), (0, i2)] m0 Q
      refine zw_41_3 zr_172_11 ?_ ?_
      · intro h7
        refine zw_3 zr_172_51 rfl ?_
        refine zw_R zr_172_52 (by decide) zm_172 (v := (0, i1)) (zRetB (by omega)) ?_
        rw [← hQ]; exact ⟨_, rfl, by omega, by omega, rfl, by rw [show F70 823 = i2 by rw [← hG70]; omega]; omega⟩
      · intro h9
        refine zw_3 zr_172_14 rfl ?_
        refine zw_40_4 zr_172_15 ?_ ?_
        · intro h10
          refine zw_push zr_172_39 ?_
          refine zw_42 zr_172_40 ?_
          refine zw_9 (L' := [(2, 69), (0, a0), (0, a1), (0, 1), (0, i2)]) zr_172_44 (Nat.le_of_ble_eq_true rfl) rfl ?_
          refine zw_15 (c := 1) (L' := [(2, 69), (0, a0), (0, a1), (0, 1), (0, (i2 + 1))]) zr_172_45 rfl (by decide) (by omega) rfl ?_
          refine zw_42 zr_172_48 ?_
          exact zw_less (L := [(2, 69), (0, a0), (0, a1), (0, 1), (0, (i2 + 1))]) ⟨Or.inr rfl, Or.inr rfl, Or.inr rfl, Or.inr rfl, Or.inr rfl, trivial⟩ (ihlp5_3 (1) ((i2 + 1))  (by omega) (by omega) (by omega) (by omega) (by omega) (by omega) (by omega))
        · intro h11
          refine zw_7 zr_172_18 rfl ?_
          refine zw_4 zr_172_19 rfl ?_
          refine zw_push zr_172_21 ?_
          refine zw_C zr_172_22 (Or.inl rfl) zm_144 rfl rfl ⟨Nat.le_of_ble_eq_true rfl, Nat.le_of_ble_eq_true rfl, Nat.le_of_ble_eq_true rfl, rfl, by decide⟩ (by omega) (P := (fun v m' => zW E (d) 172 25 [(2, 69), (0, a0), (0, a1), (0, i1), (0, i2)] (if v.1 = 9 then [] else v :: []) m' Q)) ?_ (fun _ _ h => h)
          generalize hQ1 : (fun v m' => zW E (d) 172 25 [(2, 69), (0, a0), (0, a1), (0, i1), (0, i2)] (if v.1 = 9 then [] else v :: []) m' Q) = Q1
          show zW E (d - 1) 144 0 [(2, 69), (0, i2), (0, 0)] [] m0 Q1
          refine zw_7 zr_144_0 rfl ?_
          refine zw_46r (s := 70) zr_144_1 rfl rfl rfl rfl ?_
          refine zw_push zr_144_4 ?_
          refine zw_push zr_144_6 ?_
          refine zw_3 zr_144_8 rfl ?_
          refine zw_18 zr_144_9 (by omega) ?_
          refine zw_16 zr_144_10 (by omega) ?_
          refine zw_3 zr_144_11 rfl ?_
          refine zw_16 zr_144_12 (by omega) ?_
          refine zw_48 (c := 70) (len := 826) zr_144_13 rfl rfl (by omega) (by omega) ?_
          intro x12 ex12
          have bx12 := ib_70_m0 hI0 (k := (((90 + (6 * i2)) + 0)).toNat) (by omega)
          rw [← ex12] at bx12
          have qx12 : x12 = F70 (((90 + (6 * i2)) + 0)).toNat := by rw [← hG70]; exact ex12
          clear ex12
          refine zw_R zr_144_14 (by decide) zm_144 (v := (0, x12)) rfl ?_
          rw [← hQ1]
          show zW E (d) 172 25 [(2, 69), (0, a0), (0, a1), (0, i1), (0, i2)] [(0, x12)] m0 Q
          refine zw_3 zr_172_25 rfl ?_
          refine zw_41_4 zr_172_26 ?_ ?_
          · intro h13
            refine zw_push zr_172_43 ?_
            refine zw_9 (L' := [(2, 69), (0, a0), (0, a1), (0, 0), (0, i2)]) zr_172_44 (Nat.le_of_ble_eq_true rfl) rfl ?_
            refine zw_15 (c := 1) (L' := [(2, 69), (0, a0), (0, a1), (0, 0), (0, (i2 + 1))]) zr_172_45 rfl (by decide) (by omega) rfl ?_
            refine zw_42 zr_172_48 ?_
            exact zw_less (L := [(2, 69), (0, a0), (0, a1), (0, 0), (0, (i2 + 1))]) ⟨Or.inr rfl, Or.inr rfl, Or.inr rfl, Or.inr rfl, Or.inr rfl, trivial⟩ (ihlp5_3 (0) ((i2 + 1))  (by omega) (by omega) (by omega) (by omega) (by omega) (by omega) (by omega))
          · intro h14
            refine zw_7 zr_172_29 rfl ?_
            refine zw_4 zr_172_30 rfl ?_
            refine zw_3 zr_172_32 rfl ?_
            refine zw_C zr_172_33 (Or.inl rfl) zm_171 rfl rfl ⟨Nat.le_of_ble_eq_true rfl, Nat.le_of_ble_eq_true rfl, Nat.le_of_ble_eq_true rfl, rfl, by decide⟩ (by omega) (P := (fun v m' => zW E (d) 172 36 [(2, 69), (0, a0), (0, a1), (0, i1), (0, i2)] (if v.1 = 9 then [] else v :: []) m' Q)) ?_ (fun _ _ h => h)
            generalize hQ1 : (fun v m' => zW E (d) 172 36 [(2, 69), (0, a0), (0, a1), (0, i1), (0, i2)] (if v.1 = 9 then [] else v :: []) m' Q) = Q1
            show zW E (d - 1) 171 0 [(2, 69), (0, i2), (0, a0)] [] m0 Q1
            refine zw_7 zr_171_0 rfl ?_
            refine zw_3 zr_171_1 rfl ?_
            refine zw_push zr_171_2 ?_
            refine zw_C zr_171_3 (Or.inl rfl) zm_144 rfl rfl ⟨Nat.le_of_ble_eq_true rfl, Nat.le_of_ble_eq_true rfl, Nat.le_of_ble_eq_true rfl, rfl, by decide⟩ (by omega) (P := (fun v m' => zW E (d - 1) 171 6 [(2, 69), (0, i2), (0, a0)] (if v.1 = 9 then [] else v :: []) m' Q1)) ?_ (fun _ _ h => h)
            generalize hQ2 : (fun v m' => zW E (d - 1) 171 6 [(2, 69), (0, i2), (0, a0)] (if v.1 = 9 then [] else v :: []) m' Q1) = Q2
            show zW E (d - 1 - 1) 144 0 [(2, 69), (0, i2), (0, 1)] [] m0 Q2
            refine zw_7 zr_144_0 rfl ?_
            refine zw_46r (s := 70) zr_144_1 rfl rfl rfl rfl ?_
            refine zw_push zr_144_4 ?_
            refine zw_push zr_144_6 ?_
            refine zw_3 zr_144_8 rfl ?_
            refine zw_18 zr_144_9 (by omega) ?_
            refine zw_16 zr_144_10 (by omega) ?_
            refine zw_3 zr_144_11 rfl ?_
            refine zw_16 zr_144_12 (by omega) ?_
            refine zw_48 (c := 70) (len := 826) zr_144_13 rfl rfl (by omega) (by omega) ?_
            intro x15 ex15
            have bx15 := ib_70_m1 hI0 (k := (((90 + (6 * i2)) + 1)).toNat) (by omega)
            rw [← ex15] at bx15
            have qx15 : x15 = F70 (((90 + (6 * i2)) + 1)).toNat := by rw [← hG70]; exact ex15
            clear ex15
            refine zw_R zr_144_14 (by decide) zm_144 (v := (0, x15)) rfl ?_
            rw [← hQ2]
            show zW E (d - 1) 171 6 [(2, 69), (0, i2), (0, a0)] [(0, x15)] m0 Q1
            refine zw_3 zr_171_6 rfl ?_
            refine zw_41_1 zr_171_7 ?_ ?_
            · intro h16
              refine zw_push zr_171_20 ?_
              refine zw_42 zr_171_21 ?_
              refine zw_R zr_171_25 (by decide) zm_171 (v := (0, 1)) (zRetB (by omega)) ?_
              rw [← hQ1]
              show zW E (d) 172 36 [(2, 69), (0, a0), (0, a1), (0, i1), (0, i2)] [(0, 1)] m0 Q
              refine zw_40_1 zr_172_36 ?_ ?_
              · intro h17; omega
              · intro h18
                refine zw_push zr_172_39 ?_
                refine zw_42 zr_172_40 ?_
                refine zw_9 (L' := [(2, 69), (0, a0), (0, a1), (0, 1), (0, i2)]) zr_172_44 (Nat.le_of_ble_eq_true rfl) rfl ?_
                refine zw_15 (c := 1) (L' := [(2, 69), (0, a0), (0, a1), (0, 1), (0, (i2 + 1))]) zr_172_45 rfl (by decide) (by omega) rfl ?_
                refine zw_42 zr_172_48 ?_
                exact zw_less (L := [(2, 69), (0, a0), (0, a1), (0, 1), (0, (i2 + 1))]) ⟨Or.inr rfl, Or.inr rfl, Or.inr rfl, Or.inr rfl, Or.inr rfl, trivial⟩ (ihlp5_3 (1) ((i2 + 1))  (by omega) (by omega) (by omega) (by omega) (by omega) (by omega) (by omega))
            · intro h19
              refine zw_7 zr_171_10 rfl ?_
              refine zw_3 zr_171_11 rfl ?_
              refine zw_push zr_171_12 ?_
              refine zw_C zr_171_13 (Or.inl rfl) zm_144 rfl rfl ⟨Nat.le_of_ble_eq_true rfl, Nat.le_of_ble_eq_true rfl, Nat.le_of_ble_eq_true rfl, rfl, by decide⟩ (by omega) (P := (fun v m' => zW E (d - 1) 171 16 [(2, 69), (0, i2), (0, a0)] (if v.1 = 9 then [] else v :: []) m' Q1)) ?_ (fun _ _ h => h)
              generalize hQ2 : (fun v m' => zW E (d - 1) 171 16 [(2, 69), (0, i2), (0, a0)] (if v.1 = 9 then [] else v :: []) m' Q1) = Q2
              show zW E (d - 1 - 1) 144 0 [(2, 69), (0, i2), (0, 2)] [] m0 Q2
              refine zw_7 zr_144_0 rfl ?_
              refine zw_46r (s := 70) zr_144_1 rfl rfl rfl rfl ?_
              refine zw_push zr_144_4 ?_
              refine zw_push zr_144_6 ?_
              refine zw_3 zr_144_8 rfl ?_
              refine zw_18 zr_144_9 (by omega) ?_
              refine zw_16 zr_144_10 (by omega) ?_
              refine zw_3 zr_144_11 rfl ?_
              refine zw_16 zr_144_12 (by omega) ?_
              refine zw_48 (c := 70) (len := 826) zr_144_13 rfl rfl (by omega) (by omega) ?_
              intro x20 ex20
              have bx20 := ib_70_m2 hI0 (k := (((90 + (6 * i2)) + 2)).toNat) (by omega)
              rw [← ex20] at bx20
              have qx20 : x20 = F70 (((90 + (6 * i2)) + 2)).toNat := by rw [← hG70]; exact ex20
              clear ex20
              refine zw_R zr_144_14 (by decide) zm_144 (v := (0, x20)) rfl ?_
              rw [← hQ2]
              show zW E (d - 1) 171 16 [(2, 69), (0, i2), (0, a0)] [(0, x20)] m0 Q1
              refine zw_3 zr_171_16 rfl ?_
              refine zw_41_4 zr_171_17 ?_ ?_
              · intro h21
                refine zw_push zr_171_24 ?_
                refine zw_R zr_171_25 (by decide) zm_171 (v := (0, 0)) (zRetB (by omega)) ?_
                rw [← hQ1]
                show zW E (d) 172 36 [(2, 69), (0, a0), (0, a1), (0, i1), (0, i2)] [(0, 0)] m0 Q
                refine zw_40_1 zr_172_36 ?_ ?_
                · intro h22
                  refine zw_push zr_172_43 ?_
                  refine zw_9 (L' := [(2, 69), (0, a0), (0, a1), (0, 0), (0, i2)]) zr_172_44 (Nat.le_of_ble_eq_true rfl) rfl ?_
                  refine zw_15 (c := 1) (L' := [(2, 69), (0, a0), (0, a1), (0, 0), (0, (i2 + 1))]) zr_172_45 rfl (by decide) (by omega) rfl ?_
                  refine zw_42 zr_172_48 ?_
                  exact zw_less (L := [(2, 69), (0, a0), (0, a1), (0, 0), (0, (i2 + 1))]) ⟨Or.inr rfl, Or.inr rfl, Or.inr rfl, Or.inr rfl, Or.inr rfl, trivial⟩ (ihlp5_3 (0) ((i2 + 1))  (by omega) (by omega) (by omega) (by omega) (by omega) (by omega) (by omega))
                · intro h23; omega
              · intro h24
                refine zw_push zr_171_20 ?_
                refine zw_42 zr_171_21 ?_
                refine zw_R zr_171_25 (by decide) zm_171 (v := (0, 1)) (zRetB (by omega)) ?_
                rw [← hQ1]
                show zW E (d) 172 36 [(2, 69), (0, a0), (0, a1), (0, i1), (0, i2)] [(0, 1)] m0 Q
                refine zw_40_1 zr_172_36 ?_ ?_
                · intro h25; omega
                · intro h26
                  refine zw_push zr_172_39 ?_
                  refine zw_42 zr_172_40 ?_
                  refine zw_9 (L' := [(2, 69), (0, a0), (0, a1), (0, 1), (0, i2)]) zr_172_44 (Nat.le_of_ble_eq_true rfl) rfl ?_
                  refine zw_15 (c := 1) (L' := [(2, 69), (0, a0), (0, a1), (0, 1), (0, (i2 + 1))]) zr_172_45 rfl (by decide) (by omega) rfl ?_
                  refine zw_42 zr_172_48 ?_
                  exact zw_less (L := [(2, 69), (0, a0), (0, a1), (0, 1), (0, (i2 + 1))]) ⟨Or.inr rfl, Or.inr rfl, Or.inr rfl, Or.inr rfl, Or.inr rfl, trivial⟩ (ihlp5_3 (1) ((i2 + 1))  (by omega) (by omega) (by omega) (by omega) (by omega) (by omega) (by omega))
  exact lp5_3 _ (0) (0)  (by omega) (by omega) (by omega) (by omega) (by simp only [hmv, Int.toNat_zero]) (by have := ib_70_meetings hI0 (k := 823) rfl; omega) (Nat.lt_succ_self _)

abbrev W_174 : List (Nat × Nat) := [(69, 3), (69, 4), (69, 5), (69, 6), (69, 7), (69, 9), (69, 11), (69, 13), (69, 17), (69, 18), (73, 1000), (74, 1000), (75, 1000), (76, 1000), (77, 1000), (78, 1000), (79, 1000)]
set_option maxHeartbeats 8000000 in
theorem th_174 {E : zE} {d : Nat} {m0 : zM} {a0 : Int} {a1 : Int} {a2 : Int} (hd : 7 ≤ d) (hI0 : zInv m0) (ha0 : (-2147483648) ≤ a0 ∧ a0 ≤ 2147483647) (ha1 : (-2147483648) ≤ a1 ∧ a1 ≤ 2147483647) (ha2 : (-2147483648) ≤ a2 ∧ a2 ≤ 2147483647) : zC E d 174 [(2, 69), (0, a0), (0, a1), (0, a2)] m0 (fun v m' => ∃ r : Int, v = (0, r) ∧ (-2) ≤ r ∧ r ≤ 1 ∧ zInv m' ∧ zFr W_174 m0 m') := by
  have hF0 : zFr W_174 m0 m0 := zFr.rfl
  generalize hQ : (fun (v : zV) (m' : zM) => ∃ r : Int, v = (0, r) ∧ (-2) ≤ r ∧ r ≤ 1 ∧ zInv m' ∧ zFr W_174 m0 m') = Q
  show zW E d 174 0 [(2, 69), (0, a0), (0, a1), (0, a2), (9, 0), (9, 0), (9, 0), (9, 0)] [] m0 Q
  refine zw_3 zr_174_0 rfl ?_
  refine zw_C zr_174_1 (Or.inr rfl) zm_148 rfl rfl ⟨Nat.le_of_ble_eq_true rfl, Nat.le_of_ble_eq_true rfl, Nat.le_of_ble_eq_true rfl, rfl, by decide⟩ (by omega) (P := (fun v m' => zW E (d) 174 4 [(2, 69), (0, a0), (0, a1), (0, a2), (9, 0), (9, 0), (9, 0), (9, 0)] (if v.1 = 9 then [] else v :: []) m' Q)) ?_ (fun _ _ h => h)
  generalize hQ1 : (fun v m' => zW E (d) 174 4 [(2, 69), (0, a0), (0, a1), (0, a2), (9, 0), (9, 0), (9, 0), (9, 0)] (if v.1 = 9 then [] else v :: []) m' Q) = Q1
  show zW E (d - 1) 148 0 [(0, a0)] [] m0 Q1
  refine zw_3 zr_148_0 rfl ?_
  refine zw_36 zr_148_1 ?_
  refine zw_push zr_148_2 ?_
  refine zw_push zr_148_3 ?_
  refine zw_C zr_148_6 (Or.inr rfl) zm_140 rfl rfl ⟨Nat.le_of_ble_eq_true rfl, Nat.le_of_ble_eq_true rfl, Nat.le_of_ble_eq_true rfl, rfl, by decide⟩ (by omega) (P := (fun v m' => zW E (d - 1) 148 9 [(0, a0)] (if v.1 = 9 then [] else v :: []) m' Q1)) ?_ (fun _ _ h => h)
  generalize hQ2 : (fun v m' => zW E (d - 1) 148 9 [(0, a0)] (if v.1 = 9 then [] else v :: []) m' Q1) = Q2
  show zW E (d - 1 - 1) 140 0 [(1, a0), (9, 0), (1, 0), (9, 0), (1, 3), (9, 0)] [] m0 Q2
  refine zw_5 zr_140_0 rfl ?_
  refine zw_5 zr_140_1 rfl ?_
  refine zw_39_0 zr_140_2 zr_140_3 ?_ ?_
  · intro h1
    refine zw_push zr_140_17 ?_
    refine zw_R zr_140_18 (by decide) zm_140 (v := (0, 0)) (zRetB (by omega)) ?_
    rw [← hQ2]
    show zW E (d - 1) 148 9 [(0, a0)] [(0, 0)] m0 Q1
    refine zw_R zr_148_9 (by decide) zm_148 (v := (0, 0)) (zRetB (by omega)) ?_
    rw [← hQ1]
    show zW E (d) 174 4 [(2, 69), (0, a0), (0, a1), (0, a2), (9, 0), (9, 0), (9, 0), (9, 0)] [(0, 0)] m0 Q
    refine zw_40_1 zr_174_4 ?_ ?_
    · intro h2
      refine zw_push zr_174_29 ?_
      refine zw_R zr_174_31 (by decide) zm_174 (v := (0, (-2))) rfl ?_
      rw [← hQ]; exact ⟨_, rfl, by omega, by omega, hI0, hF0⟩
    · intro h3; omega
  · intro h4
    refine zw_5 zr_140_6 rfl ?_
    refine zw_6 zr_140_7 rfl ?_
    refine zw_39_2 zr_140_9 zr_140_10 ?_ ?_
    · intro h5
      refine zw_push zr_140_17 ?_
      refine zw_R zr_140_18 (by decide) zm_140 (v := (0, 0)) (zRetB (by omega)) ?_
      rw [← hQ2]
      show zW E (d - 1) 148 9 [(0, a0)] [(0, 0)] m0 Q1
      refine zw_R zr_148_9 (by decide) zm_148 (v := (0, 0)) (zRetB (by omega)) ?_
      rw [← hQ1]
      show zW E (d) 174 4 [(2, 69), (0, a0), (0, a1), (0, a2), (9, 0), (9, 0), (9, 0), (9, 0)] [(0, 0)] m0 Q
      refine zw_40_1 zr_174_4 ?_ ?_
      · intro h6
        refine zw_push zr_174_29 ?_
        refine zw_R zr_174_31 (by decide) zm_174 (v := (0, (-2))) rfl ?_
        rw [← hQ]; exact ⟨_, rfl, by omega, by omega, hI0, hF0⟩
      · intro h7; omega
    · intro h8
      refine zw_push zr_140_13 ?_
      refine zw_42 zr_140_14 ?_
      refine zw_R zr_140_18 (by decide) zm_140 (v := (0, 1)) (zRetB (by omega)) ?_
      rw [← hQ2]
      show zW E (d - 1) 148 9 [(0, a0)] [(0, 1)] m0 Q1
      refine zw_R zr_148_9 (by decide) zm_148 (v := (0, 1)) (zRetB (by omega)) ?_
      rw [← hQ1]
      show zW E (d) 174 4 [(2, 69), (0, a0), (0, a1), (0, a2), (9, 0), (9, 0), (9, 0), (9, 0)] [(0, 1)] m0 Q
      refine zw_40_1 zr_174_4 ?_ ?_
      · intro h9; omega
      · intro h10
        refine zw_3 zr_174_7 rfl ?_
        refine zw_C zr_174_8 (Or.inr rfl) zm_169 rfl rfl ⟨Nat.le_of_ble_eq_true rfl, Nat.le_of_ble_eq_true rfl, Nat.le_of_ble_eq_true rfl, rfl, by decide⟩ (by omega) (P := (fun v m' => zW E (d) 174 11 [(2, 69), (0, a0), (0, a1), (0, a2), (9, 0), (9, 0), (9, 0), (9, 0)] (if v.1 = 9 then [] else v :: []) m' Q)) ?_ (fun _ _ h => h)
        generalize hQ1 : (fun v m' => zW E (d) 174 11 [(2, 69), (0, a0), (0, a1), (0, a2), (9, 0), (9, 0), (9, 0), (9, 0)] (if v.1 = 9 then [] else v :: []) m' Q) = Q1
        show zW E (d - 1) 169 0 [(0, a1)] [] m0 Q1
        refine zw_3 zr_169_0 rfl ?_
        refine zw_36 zr_169_1 ?_
        refine zw_push zr_169_2 ?_
        refine zw_push zr_169_3 ?_
        refine zw_C zr_169_6 (Or.inr rfl) zm_140 rfl rfl ⟨Nat.le_of_ble_eq_true rfl, Nat.le_of_ble_eq_true rfl, Nat.le_of_ble_eq_true rfl, rfl, by decide⟩ (by omega) (P := (fun v m' => zW E (d - 1) 169 9 [(0, a1)] (if v.1 = 9 then [] else v :: []) m' Q1)) ?_ (fun _ _ h => h)
        generalize hQ2 : (fun v m' => zW E (d - 1) 169 9 [(0, a1)] (if v.1 = 9 then [] else v :: []) m' Q1) = Q2
        show zW E (d - 1 - 1) 140 0 [(1, a1), (9, 0), (1, 0), (9, 0), (1, 99), (9, 0)] [] m0 Q2
        refine zw_5 zr_140_0 rfl ?_
        refine zw_5 zr_140_1 rfl ?_
        refine zw_39_0 zr_140_2 zr_140_3 ?_ ?_
        · intro h11
          refine zw_push zr_140_17 ?_
          refine zw_R zr_140_18 (by decide) zm_140 (v := (0, 0)) (zRetB (by omega)) ?_
          rw [← hQ2]
          show zW E (d - 1) 169 9 [(0, a1)] [(0, 0)] m0 Q1
          refine zw_R zr_169_9 (by decide) zm_169 (v := (0, 0)) (zRetB (by omega)) ?_
          rw [← hQ1]
          show zW E (d) 174 11 [(2, 69), (0, a0), (0, a1), (0, a2), (9, 0), (9, 0), (9, 0), (9, 0)] [(0, 0)] m0 Q
          refine zw_40_1 zr_174_11 ?_ ?_
          · intro h12
            refine zw_push zr_174_29 ?_
            refine zw_R zr_174_31 (by decide) zm_174 (v := (0, (-2))) rfl ?_
            rw [← hQ]; exact ⟨_, rfl, by omega, by omega, hI0, hF0⟩
          · intro h13; omega
        · intro h14
          refine zw_5 zr_140_6 rfl ?_
          refine zw_6 zr_140_7 rfl ?_
          refine zw_39_2 zr_140_9 zr_140_10 ?_ ?_
          · intro h15
            refine zw_push zr_140_17 ?_
            refine zw_R zr_140_18 (by decide) zm_140 (v := (0, 0)) (zRetB (by omega)) ?_
            rw [← hQ2]
            show zW E (d - 1) 169 9 [(0, a1)] [(0, 0)] m0 Q1
            refine zw_R zr_169_9 (by decide) zm_169 (v := (0, 0)) (zRetB (by omega)) ?_
            rw [← hQ1]
            show zW E (d) 174 11 [(2, 69), (0, a0), (0, a1), (0, a2), (9, 0), (9, 0), (9, 0), (9, 0)] [(0, 0)] m0 Q
            refine zw_40_1 zr_174_11 ?_ ?_
            · intro h16
              refine zw_push zr_174_29 ?_
              refine zw_R zr_174_31 (by decide) zm_174 (v := (0, (-2))) rfl ?_
              rw [← hQ]; exact ⟨_, rfl, by omega, by omega, hI0, hF0⟩
            · intro h17; omega
          · intro h18
            refine zw_push zr_140_13 ?_
            refine zw_42 zr_140_14 ?_
            refine zw_R zr_140_18 (by decide) zm_140 (v := (0, 1)) (zRetB (by omega)) ?_
            rw [← hQ2]
            show zW E (d - 1) 169 9 [(0, a1)] [(0, 1)] m0 Q1
            refine zw_R zr_169_9 (by decide) zm_169 (v := (0, 1)) (zRetB (by omega)) ?_
            rw [← hQ1]
            show zW E (d) 174 11 [(2, 69), (0, a0), (0, a1), (0, a2), (9, 0), (9, 0), (9, 0), (9, 0)] [(0, 1)] m0 Q
            refine zw_40_1 zr_174_11 ?_ ?_
            · intro h19; omega
            · intro h20
              refine zw_3 zr_174_14 rfl ?_
              refine zw_36 zr_174_15 ?_
              refine zw_3 zr_174_16 rfl ?_
              refine zw_36 zr_174_17 ?_
              refine zw_push zr_174_18 ?_
              refine zw_27 zr_174_19 (by omega) ?_
              refine zw_push zr_174_20 ?_
              refine zw_C zr_174_23 (Or.inr rfl) zm_140 rfl rfl ⟨Nat.le_of_ble_eq_true rfl, Nat.le_of_ble_eq_true rfl, Nat.le_of_ble_eq_true rfl, rfl, by decide⟩ (by omega) (P := (fun v m' => zW E (d) 174 26 [(2, 69), (0, a0), (0, a1), (0, a2), (9, 0), (9, 0), (9, 0), (9, 0)] (if v.1 = 9 then [] else v :: []) m' Q)) ?_ (fun _ _ h => h)
              generalize hQ1 : (fun v m' => zW E (d) 174 26 [(2, 69), (0, a0), (0, a1), (0, a2), (9, 0), (9, 0), (9, 0), (9, 0)] (if v.1 = 9 then [] else v :: []) m' Q) = Q1
              show zW E (d - 1) 140 0 [(1, a2), (9, 0), (1, (a1 + 1)), (9, 0), (1, 99), (9, 0)] [] m0 Q1
              refine zw_5 zr_140_0 rfl ?_
              refine zw_5 zr_140_1 rfl ?_
              refine zw_39_0 zr_140_2 zr_140_3 ?_ ?_
              · intro h21
                refine zw_push zr_140_17 ?_
                refine zw_R zr_140_18 (by decide) zm_140 (v := (0, 0)) (zRetB (by omega)) ?_
                rw [← hQ1]
                show zW E (d) 174 26 [(2, 69), (0, a0), (0, a1), (0, a2), (9, 0), (9, 0), (9, 0), (9, 0)] [(0, 0)] m0 Q
                refine zw_40_4 zr_174_26 ?_ ?_
                · intro h22; omega
                · intro h23
                  refine zw_push zr_174_29 ?_
                  refine zw_R zr_174_31 (by decide) zm_174 (v := (0, (-2))) rfl ?_
                  rw [← hQ]; exact ⟨_, rfl, by omega, by omega, hI0, hF0⟩
              · intro h24
                refine zw_5 zr_140_6 rfl ?_
                refine zw_6 zr_140_7 rfl ?_
                refine zw_39_2 zr_140_9 zr_140_10 ?_ ?_
                · intro h25
                  refine zw_push zr_140_17 ?_
                  refine zw_R zr_140_18 (by decide) zm_140 (v := (0, 0)) (zRetB (by omega)) ?_
                  rw [← hQ1]
                  show zW E (d) 174 26 [(2, 69), (0, a0), (0, a1), (0, a2), (9, 0), (9, 0), (9, 0), (9, 0)] [(0, 0)] m0 Q
                  refine zw_40_4 zr_174_26 ?_ ?_
                  · intro h26; omega
                  · intro h27
                    refine zw_push zr_174_29 ?_
                    refine zw_R zr_174_31 (by decide) zm_174 (v := (0, (-2))) rfl ?_
                    rw [← hQ]; exact ⟨_, rfl, by omega, by omega, hI0, hF0⟩
                · intro h28
                  refine zw_push zr_140_13 ?_
                  refine zw_42 zr_140_14 ?_
                  refine zw_R zr_140_18 (by decide) zm_140 (v := (0, 1)) (zRetB (by omega)) ?_
                  rw [← hQ1]
                  show zW E (d) 174 26 [(2, 69), (0, a0), (0, a1), (0, a2), (9, 0), (9, 0), (9, 0), (9, 0)] [(0, 1)] m0 Q
                  refine zw_40_4 zr_174_26 ?_ ?_
                  · intro h29
                    refine zw_7 zr_174_32 rfl ?_
                    refine zw_3 zr_174_33 rfl ?_
                    refine zw_3 zr_174_34 rfl ?_
                    obtain ⟨f30, ef30⟩ : ∃ v, m0 70 823 = v := ⟨_, rfl⟩
                    have bf30 : 0 ≤ m0 70 823 ∧ m0 70 823 ≤ 60 := ib_70_meetings hI0 (by omega)
                    rw [ef30] at bf30
                    refine zw_C zr_174_35 (Or.inl rfl) zm_167 rfl rfl ⟨Nat.le_of_ble_eq_true rfl, Nat.le_of_ble_eq_true rfl, Nat.le_of_ble_eq_true rfl, rfl, by decide⟩ (by omega) (th_167 (d := d - 1) (by omega) hI0 (a0 := a0) (a1 := a1) (g0 := f30)  (F70 := m0 70) (F76 := m0 76) (F77 := m0 77) (F78 := m0 78) ef30 rfl rfl rfl rfl (by omega) (by omega) ) ?_
                    rintro _ m31 ⟨rfl, hIm31, gm31, po0_m31⟩
                    have hFm31 : zFr W_174 m0 m31 := hF0.trans gm31 rfl
                    have km31_70_823 : m31 70 823 = f30 := (gm31 70 823 rfl).trans ef30
                    show zW E (d) 174 38 [(2, 69), (0, a0), (0, a1), (0, a2), (9, 0), (9, 0), (9, 0), (9, 0)] [] m31 Q
                    refine zw_push zr_174_38 ?_
                    refine zw_10 (L' := [(2, 69), (0, a0), (0, a1), (0, a2), (0, 0), (9, 0), (9, 0), (9, 0)]) zr_174_39 (Nat.le_of_ble_eq_true rfl) rfl ?_
                    have lp41_34 : ∀ (nlp41_34 : Nat) (i32 : Int) (m33 : zM), zInv m33 → zFr W_174 m0 m33 → m33 70 823 = f30 → 0 ≤ i32 → i32 ≤ 10 → (10 - i32).toNat < nlp41_34 → zW E (d) 174 41 [(2, 69), (0, a0), (0, a1), (0, a2), (0, i32), (9, 0), (9, 0), (9, 0)] [] m33 Q := by
                      intro nlp41_34
                      induction nlp41_34 with
                      | zero =>
                        intros
                        exact absurd (by assumption : _ < 0) (Nat.not_lt_zero _)
                      | succ nlp41_34 ihlp41_34 =>
                        intro i32 m33 hIm33 hFm33 km33_70_823 li32 ui32 hmlp41_34
                        refine zw_4 zr_174_41 rfl ?_
                        refine zw_7 zr_174_43 rfl ?_
                        refine zw_C zr_174_44 (Or.inl rfl) zm_141 rfl rfl ⟨Nat.le_of_ble_eq_true rfl, Nat.le_of_ble_eq_true rfl, Nat.le_of_ble_eq_true rfl, rfl, by decide⟩ (by omega) (P := (fun v m' => zW E (d) 174 47 [(2, 69), (0, a0), (0, a1), (0, a2), (0, i32), (9, 0), (9, 0), (9, 0)] (if v.1 = 9 then [(0, i32)] else v :: [(0, i32)]) m' Q)) ?_ (fun _ _ h => h)
                        generalize hQ1 : (fun v m' => zW E (d) 174 47 [(2, 69), (0, a0), (0, a1), (0, a2), (0, i32), (9, 0), (9, 0), (9, 0)] (if v.1 = 9 then [(0, i32)] else v :: [(0, i32)]) m' Q) = Q1
                        show zW E (d - 1) 141 0 [(2, 69)] [] m33 Q1
                        refine zw_7 zr_141_0 rfl ?_
                        refine zw_46r (s := 70) zr_141_1 rfl rfl rfl rfl ?_
                        refine zw_push zr_141_4 ?_
                        obtain ⟨f36, ef36⟩ : ∃ v, m33 70 822 = v := ⟨_, rfl⟩
                        have bf36 : 0 ≤ m33 70 822 ∧ m33 70 822 ≤ 10 := ib_70_players hIm33 (by omega)
                        rw [ef36] at bf36
                        refine zw_48k (c := 70) (len := 826) zr_141_7 rfl rfl (by omega) (by omega) (show (822 : Int).toNat = 822 by omega) ef36 ?_
                        refine zw_R zr_141_8 (by decide) zm_141 (v := (0, f36)) rfl ?_
                        rw [← hQ1]
                        show zW E (d) 174 47 [(2, 69), (0, a0), (0, a1), (0, a2), (0, i32), (9, 0), (9, 0), (9, 0)] [(0, f36), (0, i32)] m33 Q
                        refine zw_41_3 zr_174_47 ?_ ?_
                        · intro h37
                          refine zw_7 zr_174_70 rfl ?_
                          refine zw_3 zr_174_71 rfl ?_
                          refine zw_3 zr_174_72 rfl ?_
                          refine zw_C zr_174_73 (Or.inl rfl) zm_167 rfl rfl ⟨Nat.le_of_ble_eq_true rfl, Nat.le_of_ble_eq_true rfl, Nat.le_of_ble_eq_true rfl, rfl, by decide⟩ (by omega) (th_167 (d := d - 1) (by omega) hIm33 (a0 := a0) (a1 := a2) (g0 := f30)  (F70 := m33 70) (F76 := m33 76) (F77 := m33 77) (F78 := m33 78) km33_70_823 rfl rfl rfl rfl (by omega) (by omega) ) ?_
                          rintro _ m38 ⟨rfl, hIm38, gm38, po0_m38⟩
                          have hFm38 : zFr W_174 m0 m38 := hFm33.trans gm38 rfl
                          have km38_70_823 : m38 70 823 = f30 := (gm38 70 823 rfl).trans km33_70_823
                          have km38_70_822 : m38 70 822 = f36 := (gm38 70 822 rfl).trans ef36
                          show zW E (d) 174 76 [(2, 69), (0, a0), (0, a1), (0, a2), (0, i32), (9, 0), (9, 0), (9, 0)] [] m38 Q
                          refine zw_push zr_174_76 ?_
                          refine zw_10 (L' := [(2, 69), (0, a0), (0, a1), (0, a2), (0, 0), (9, 0), (9, 0), (9, 0)]) zr_174_77 (Nat.le_of_ble_eq_true rfl) rfl ?_
                          refine zw_push zr_174_79 ?_
                          refine zw_14 (L' := [(2, 69), (0, a0), (0, a1), (0, a2), (0, 0), (1, 0), (9, 0), (9, 0)]) zr_174_80 (Nat.le_of_ble_eq_true rfl) rfl ?_
                          refine zw_push zr_174_82 ?_
                          refine zw_10 (L' := [(2, 69), (0, a0), (0, a1), (0, a2), (0, 0), (1, 0), (9, 0), (0, 0)]) zr_174_83 (Nat.le_of_ble_eq_true rfl) rfl ?_
                          have lp85_43 : ∀ (nlp85_43 : Nat) (i39 i40 i41 : Int) (m42 : zM), zInv m42 → zFr W_174 m0 m42 → m42 70 823 = f30 → m42 70 822 = f36 → 0 ≤ i39 → i39 ≤ 10 → (-9223372036854775808) ≤ i40 → i40 ≤ 9223372036854775807 → 0 ≤ i41 → i41 ≤ 10 → (i39 ≤ i41) → (10 - i41).toNat < nlp85_43 → zW E (d) 174 85 [(2, 69), (0, a0), (0, a1), (0, a2), (0, i39), (1, i40), (9, 0), (0, i41)] [] m42 Q := by
                            intro nlp85_43
                            induction nlp85_43 with
                            | zero =>
                              intros
                              exact absurd (by assumption : _ < 0) (Nat.not_lt_zero _)
                            | succ nlp85_43 ihlp85_43 =>
                              intro i39 i40 i41 m42 hIm42 hFm42 km42_70_823 km42_70_822 li39 ui39 li40 ui40 li41 ui41 hv0lp85_43 hmlp85_43
                              refine zw_4 zr_174_85 rfl ?_
                              refine zw_7 zr_174_87 rfl ?_
                              refine zw_C zr_174_88 (Or.inl rfl) zm_141 rfl rfl ⟨Nat.le_of_ble_eq_true rfl, Nat.le_of_ble_eq_true rfl, Nat.le_of_ble_eq_true rfl, rfl, by decide⟩ (by omega) (P := (fun v m' => zW E (d) 174 91 [(2, 69), (0, a0), (0, a1), (0, a2), (0, i39), (1, i40), (9, 0), (0, i41)] (if v.1 = 9 then [(0, i41)] else v :: [(0, i41)]) m' Q)) ?_ (fun _ _ h => h)
                              generalize hQ1 : (fun v m' => zW E (d) 174 91 [(2, 69), (0, a0), (0, a1), (0, a2), (0, i39), (1, i40), (9, 0), (0, i41)] (if v.1 = 9 then [(0, i41)] else v :: [(0, i41)]) m' Q) = Q1
                              show zW E (d - 1) 141 0 [(2, 69)] [] m42 Q1
                              refine zw_7 zr_141_0 rfl ?_
                              refine zw_46r (s := 70) zr_141_1 rfl rfl rfl rfl ?_
                              refine zw_push zr_141_4 ?_
                              refine zw_48k (c := 70) (len := 826) zr_141_7 rfl rfl (by omega) (by omega) (show (822 : Int).toNat = 822 by omega) km42_70_822 ?_
                              refine zw_R zr_141_8 (by decide) zm_141 (v := (0, f36)) rfl ?_
                              rw [← hQ1]
                              show zW E (d) 174 91 [(2, 69), (0, a0), (0, a1), (0, a2), (0, i39), (1, i40), (9, 0), (0, i41)] [(0, f36), (0, i41)] m42 Q
                              refine zw_41_3 zr_174_91 ?_ ?_
                              · intro h45
                                refine zw_4 zr_174_144 rfl ?_
                                refine zw_40_4 zr_174_146 ?_ ?_
                                · intro h46
                                  refine zw_7 zr_174_151 rfl ?_
                                  refine zw_6 zr_174_152 rfl ?_
                                  refine zw_4 zr_174_154 rfl ?_
                                  refine zw_36 zr_174_156 ?_
                                  refine zw_C zr_174_157 (Or.inl rfl) zm_173 rfl rfl ⟨Nat.le_of_ble_eq_true rfl, Nat.le_of_ble_eq_true rfl, Nat.le_of_ble_eq_true rfl, rfl, by decide⟩ (by omega) (th_173 (d := d - 1) (by omega) hIm42 (a0 := i40) (a1 := i39)      (by omega) (by omega) ) ?_
                                  rintro _ m47 ⟨rfl, hIm47, gm47⟩
                                  have hFm47 : zFr W_174 m0 m47 := hFm42.trans gm47 rfl
                                  have km47_70_823 : m47 70 823 = f30 := (gm47 70 823 rfl).trans km42_70_823
                                  have km47_70_822 : m47 70 822 = f36 := (gm47 70 822 rfl).trans km42_70_822
                                  show zW E (d) 174 160 [(2, 69), (0, a0), (0, a1), (0, a2), (0, i39), (1, i40), (9, 0), (0, i41)] [] m47 Q
                                  refine zw_push zr_174_160 ?_
                                  refine zw_R zr_174_161 (by decide) zm_174 (v := (0, 1)) rfl ?_
                                  rw [← hQ]; exact ⟨_, rfl, by omega, by omega, hIm47, hFm47⟩
                                · intro h48
                                  refine zw_push zr_174_149 ?_
                                  refine zw_R zr_174_150 (by decide) zm_174 (v := (0, 0)) rfl ?_
                                  rw [← hQ]; exact ⟨_, rfl, by omega, by omega, hIm42, hFm42⟩
                              · intro h49
                                refine zw_7 zr_174_94 rfl ?_
                                refine zw_4 zr_174_95 rfl ?_
                                refine zw_3 zr_174_97 rfl ?_
                                refine zw_C zr_174_98 (Or.inl rfl) zm_172 rfl rfl ⟨Nat.le_of_ble_eq_true rfl, Nat.le_of_ble_eq_true rfl, Nat.le_of_ble_eq_true rfl, rfl, by decide⟩ (by omega) (th_172 (d := d - 1) (by omega) hIm42 (a0 := i41) (a1 := a1)   (F70 := m42 70)  rfl (by omega) (by omega) ) ?_
                                rintro _ _ ⟨r50, rfl, hr50a, hr50b, rfl, po0_r50⟩
                                show zW E (d) 174 101 [(2, 69), (0, a0), (0, a1), (0, a2), (0, i39), (1, i40), (9, 0), (0, i41)] [(0, r50)] m42 Q
                                refine zw_40_1 zr_174_101 ?_ ?_
                                · intro h51
                                  refine zw_15 (c := 1) (L' := [(2, 69), (0, a0), (0, a1), (0, a2), (0, i39), (1, i40), (9, 0), (0, (i41 + 1))]) zr_174_138 rfl (by decide) (by omega) rfl ?_
                                  refine zw_42 zr_174_141 ?_
                                  exact zw_less (L := [(2, 69), (0, a0), (0, a1), (0, a2), (0, i39), (1, i40), (9, 0), (0, (i41 + 1))]) ⟨Or.inr rfl, Or.inr rfl, Or.inr rfl, Or.inr rfl, Or.inr rfl, Or.inr rfl, Or.inl rfl, Or.inr rfl, trivial⟩ (ihlp85_43 (i39) (i40) ((i41 + 1)) m42 hIm42 hFm42  km42_70_823 km42_70_822 (by omega) (by omega) (by omega) (by omega) (by omega) (by omega) (by omega) (by omega))
                                · intro h52
                                  refine zw_7 zr_174_104 rfl ?_
                                  refine zw_4 zr_174_105 rfl ?_
                                  refine zw_3 zr_174_107 rfl ?_
                                  refine zw_C zr_174_108 (Or.inl rfl) zm_172 rfl rfl ⟨Nat.le_of_ble_eq_true rfl, Nat.le_of_ble_eq_true rfl, Nat.le_of_ble_eq_true rfl, rfl, by decide⟩ (by omega) (th_172 (d := d - 1) (by omega) hIm42 (a0 := i41) (a1 := a2)   (F70 := m42 70)  rfl (by omega) (by omega) ) ?_
                                  rintro _ _ ⟨r53, rfl, hr53a, hr53b, rfl, po0_r53⟩
                                  show zW E (d) 174 111 [(2, 69), (0, a0), (0, a1), (0, a2), (0, i39), (1, i40), (9, 0), (0, i41)] [(0, r53)] m42 Q
                                  refine zw_40_1 zr_174_111 ?_ ?_
                                  · intro h54
                                    refine zw_15 (c := 1) (L' := [(2, 69), (0, a0), (0, a1), (0, a2), (0, i39), (1, i40), (9, 0), (0, (i41 + 1))]) zr_174_138 rfl (by decide) (by omega) rfl ?_
                                    refine zw_42 zr_174_141 ?_
                                    exact zw_less (L := [(2, 69), (0, a0), (0, a1), (0, a2), (0, i39), (1, i40), (9, 0), (0, (i41 + 1))]) ⟨Or.inr rfl, Or.inr rfl, Or.inr rfl, Or.inr rfl, Or.inr rfl, Or.inr rfl, Or.inl rfl, Or.inr rfl, trivial⟩ (ihlp85_43 (i39) (i40) ((i41 + 1)) m42 hIm42 hFm42  km42_70_823 km42_70_822 (by omega) (by omega) (by omega) (by omega) (by omega) (by omega) (by omega) (by omega))
                                  · intro h55
                                    refine zw_15 (c := 1) (L' := [(2, 69), (0, a0), (0, a1), (0, a2), (0, (i39 + 1)), (1, i40), (9, 0), (0, i41)]) zr_174_114 rfl (by decide) (by omega) rfl ?_
                                    refine zw_6 zr_174_117 rfl ?_
                                    refine zw_7 zr_174_119 rfl ?_
                                    refine zw_46r (s := 76) zr_174_120 rfl rfl rfl rfl ?_
                                    refine zw_4 zr_174_123 rfl ?_
                                    refine zw_48 (c := 76) (len := 10) zr_174_125 rfl rfl (by omega) (by omega) ?_
                                    intro x56 ex56
                                    have bx56 := hIm42.ra (c := 76) (len := 10) (k := (i41).toNat) rfl (by omega)
                                    rw [← ex56] at bx56
                                    clear ex56
                                    refine zw_7 zr_174_126 rfl ?_
                                    refine zw_46r (s := 79) zr_174_127 rfl rfl rfl rfl ?_
                                    refine zw_4 zr_174_130 rfl ?_
                                    refine zw_48 (c := 79) (len := 10) zr_174_132 rfl rfl (by omega) (by omega) ?_
                                    intro x57 ex57
                                    have bx57 := hIm42.ra (c := 79) (len := 10) (k := (i41).toNat) rfl (by omega)
                                    rw [← ex57] at bx57
                                    clear ex57
                                    refine zw_17h zr_174_133 ?_
                                    intro x58 hx58a hx58b
                                    refine zw_36 zr_174_134 ?_
                                    refine zw_27h zr_174_135 ?_
                                    intro x59 hx59a hx59b
                                    refine zw_14 (L' := [(2, 69), (0, a0), (0, a1), (0, a2), (0, (i39 + 1)), (1, x59), (9, 0), (0, i41)]) zr_174_136 (Nat.le_of_ble_eq_true rfl) rfl ?_
                                    refine zw_15 (c := 1) (L' := [(2, 69), (0, a0), (0, a1), (0, a2), (0, (i39 + 1)), (1, x59), (9, 0), (0, (i41 + 1))]) zr_174_138 rfl (by decide) (by omega) rfl ?_
                                    refine zw_42 zr_174_141 ?_
                                    exact zw_less (L := [(2, 69), (0, a0), (0, a1), (0, a2), (0, (i39 + 1)), (1, x59), (9, 0), (0, (i41 + 1))]) ⟨Or.inr rfl, Or.inr rfl, Or.inr rfl, Or.inr rfl, Or.inr rfl, Or.inr rfl, Or.inl rfl, Or.inr rfl, trivial⟩ (ihlp85_43 ((i39 + 1)) (x59) ((i41 + 1)) m42 hIm42 hFm42  km42_70_823 km42_70_822 (by omega) (by omega) (by omega) (by omega) (by omega) (by omega) (by omega) (by omega))
                          exact lp85_43 _ (0) (0) (0) m38 hIm38 hFm38  km38_70_823 km38_70_822 (by omega) (by omega) (by omega) (by omega) (by omega) (by omega) (by omega) (Nat.lt_succ_self _)
                        · intro h60
                          refine zw_7 zr_174_50 rfl ?_
                          refine zw_46r (s := 79) zr_174_51 rfl rfl rfl rfl ?_
                          refine zw_4 zr_174_54 rfl ?_
                          refine zw_7 zr_174_56 rfl ?_
                          refine zw_46r (s := 76) zr_174_57 rfl rfl rfl rfl ?_
                          refine zw_4 zr_174_60 rfl ?_
                          refine zw_48 (c := 76) (len := 10) zr_174_62 rfl rfl (by omega) (by omega) ?_
                          intro x61 ex61
                          have bx61 := hIm33.ra (c := 76) (len := 10) (k := (i32).toNat) rfl (by omega)
                          rw [← ex61] at bx61
                          clear ex61
                          refine zw_49 (c := 79) (len := 10) zr_174_63 rfl rfl (by omega) (by omega) ?_
                          intro m62 em62
                          have hIm62 : zInv m62 := by rw [em62]; exact hIm33.any (by omega) rfl (by decide) (by decide)
                          have hFm62 : zFr W_174 m0 m62 := by rw [em62]; exact hFm33.any rfl
                          have km62_70_823 : m62 70 823 = f30 := by rw [em62, zUp_ne (by omega)]; exact km33_70_823
                          have km62_70_822 : m62 70 822 = f36 := by rw [em62, zUp_ne (by omega)]; exact ef36
                          clear em62
                          refine zw_15 (c := 1) (L' := [(2, 69), (0, a0), (0, a1), (0, a2), (0, (i32 + 1)), (9, 0), (9, 0), (9, 0)]) zr_174_64 rfl (by decide) (by omega) rfl ?_
                          refine zw_42 zr_174_67 ?_
                          exact zw_less (L := [(2, 69), (0, a0), (0, a1), (0, a2), (0, (i32 + 1)), (9, 0), (9, 0), (9, 0)]) ⟨Or.inr rfl, Or.inr rfl, Or.inr rfl, Or.inr rfl, Or.inr rfl, Or.inl rfl, Or.inl rfl, Or.inl rfl, trivial⟩ (ihlp41_34 ((i32 + 1)) m62 hIm62 hFm62  km62_70_823 (by omega) (by omega)  (by omega))
                    exact lp41_34 _ (0) m31 hIm31 hFm31  km31_70_823 (by omega) (by omega)  (Nat.lt_succ_self _)
                  · intro h63; omega
