abbrev W_162 : List (Nat × Nat) := [(69, 5), (69, 6), (69, 7), (69, 9), (69, 11), (69, 13), (73, 1000), (74, 1000)]
set_option maxHeartbeats 8000000 in
theorem th_162 {E : zE} {d : Nat} {m0 : zM} {a0 : Int} {F70 : Nat → Int} {F75 : Nat → Int} (hd : 4 ≤ d) (hI0 : zInv m0) (hG70 : m0 70 = F70) (hG75 : m0 75 = F75) (ha0 : 0 ≤ a0 ∧ a0 ≤ 3) : zC E d 162 [(2, 69), (0, a0)] m0 (fun v m' => ∃ r : Int, v = (0, r) ∧ 0 ≤ r ∧ r ≤ 1 ∧ zInv m' ∧ zFr W_162 m0 m' ∧ (RV (cht F70 a0) (nmf F75) 0 1 0 [] [] (m' 69 7, m' 69 13)) ∧ ((r = 1 ∧ m' 69 7 = -1) ∨ (r = 0 ∧ m' 69 7 ≠ -1))) := by
  have hF0 : zFr W_162 m0 m0 := zFr.rfl
  generalize hQ : (fun (v : zV) (m' : zM) => ∃ r : Int, v = (0, r) ∧ 0 ≤ r ∧ r ≤ 1 ∧ zInv m' ∧ zFr W_162 m0 m' ∧ (RV (cht F70 a0) (nmf F75) 0 1 0 [] [] (m' 69 7, m' 69 13)) ∧ ((r = 1 ∧ m' 69 7 = -1) ∨ (r = 0 ∧ m' 69 7 ≠ -1))) = Q
  show zW E d 162 0 [(2, 69), (0, a0)] [] m0 Q
  refine zw_7 zr_162_0 rfl ?_
  refine zw_3 zr_162_1 rfl ?_
  refine zw_47 (c := 69) zr_162_2 rfl ⟨rfl, by decide, rfl⟩ ?_
  intro m1 em1
  have hIm1 : zInv m1 := by rw [em1]; exact hI0.bd (r := 69) (k := 5) (lo := 0) (hi := 3) rfl (by omega) (by decide) (by decide) (by decide)
  have hFm1 : zFr W_162 m0 m1 := by rw [em1]; exact hF0.up rfl
  have km1_69_5 : m1 69 5 = a0 := by rw [em1]; exact zUp_eq _ _ _ _
  have fm1_70 : m1 70 = F70 := by rw [em1, zUp_fn (by decide)]; exact hG70
  have fm1_75 : m1 75 = F75 := by rw [em1, zUp_fn (by decide)]; exact hG75
  clear em1
  refine zw_7 zr_162_5 rfl ?_
  refine zw_C zr_162_6 (Or.inl rfl) zm_161 rfl rfl ⟨Nat.le_of_ble_eq_true rfl, Nat.le_of_ble_eq_true rfl, Nat.le_of_ble_eq_true rfl, rfl, by decide⟩ (by omega) (th_161 (d := d - 1) (by omega) hIm1  (g0 := a0)  (F70 := F70) (F73 := m1 73) (F74 := m1 74) (F75 := F75) km1_69_5 fm1_70 rfl rfl fm1_75  ) ?_
  rintro _ m2 ⟨r3, rfl, hr3a, hr3b, hIm2, gm2, po0_r3, po1_r3⟩
  have hFm2 : zFr W_162 m0 m2 := hFm1.trans gm2 rfl
  have km2_69_5 : m2 69 5 = a0 := (gm2 69 5 rfl).trans km1_69_5
  have fm2_70 : m2 70 = F70 := (funext fun k => gm2 70 k rfl).trans fm1_70
  have fm2_75 : m2 75 = F75 := (funext fun k => gm2 75 k rfl).trans fm1_75
  obtain ⟨f4, ef4⟩ : ∃ v, m2 69 7 = v := ⟨_, rfl⟩
  have bf4 := hIm2.fi (c := 69) (k := 7) rfl
  rw [ef4] at bf4
  rw [ef4] at po0_r3
  rw [ef4] at po1_r3
  obtain ⟨f5, ef5⟩ : ∃ v, m2 69 13 = v := ⟨_, rfl⟩
  have bf5 := hIm2.fl (c := 69) (k := 13) rfl
  rw [ef5] at bf5
  rw [ef5] at po0_r3
  show zW E (d) 162 9 [(2, 69), (0, a0)] [(0, r3)] m2 Q
  refine zw_R zr_162_9 (by decide) zm_162 (v := (0, r3)) (zRetB (by omega)) ?_
  rw [← hQ]; exact ⟨_, rfl, by omega, by omega, hIm2, hFm2, by rw [ef4, ef5]; exact po0_r3, by omega⟩

abbrev W_163 : List (Nat × Nat) := [(69, 5), (69, 6), (69, 7), (69, 9), (69, 11), (69, 13), (73, 1000), (74, 1000)]
set_option maxHeartbeats 8000000 in
theorem th_163 {E : zE} {d : Nat} {m0 : zM} {a0 : Int} {F70 : Nat → Int} (hd : 5 ≤ d) (hI0 : zInv m0) (hG70 : m0 70 = F70) (ha0 : (-2147483648) ≤ a0 ∧ a0 ≤ 2147483647) : zC E d 163 [(2, 69), (0, a0)] m0 (fun v m' => ∃ r : Int, v = (0, r) ∧ (-2147483648) ≤ r ∧ r ≤ 2147483647 ∧ zInv m' ∧ zFr W_163 m0 m' ∧ ((r = -2 ∧ (a0 < 0 ∨ 3 < a0)) ∨ ((0 ≤ a0 ∧ a0 ≤ 3) ∧ ∃ nm x, RV (cht F70 a0) nm 0 1 0 [] [] (r, x)))) := by
  have hF0 : zFr W_163 m0 m0 := zFr.rfl
  generalize hQ : (fun (v : zV) (m' : zM) => ∃ r : Int, v = (0, r) ∧ (-2147483648) ≤ r ∧ r ≤ 2147483647 ∧ zInv m' ∧ zFr W_163 m0 m' ∧ ((r = -2 ∧ (a0 < 0 ∨ 3 < a0)) ∨ ((0 ≤ a0 ∧ a0 ≤ 3) ∧ ∃ nm x, RV (cht F70 a0) nm 0 1 0 [] [] (r, x)))) = Q
  show zW E d 163 0 [(2, 69), (0, a0), (9, 0)] [] m0 Q
  refine zw_3 zr_163_0 rfl ?_
  refine zw_C zr_163_1 (Or.inr rfl) zm_148 rfl rfl ⟨Nat.le_of_ble_eq_true rfl, Nat.le_of_ble_eq_true rfl, Nat.le_of_ble_eq_true rfl, rfl, by decide⟩ (by omega) (P := (fun v m' => zW E (d) 163 4 [(2, 69), (0, a0), (9, 0)] (if v.1 = 9 then [] else v :: []) m' Q)) ?_ (fun _ _ h => h)
  generalize hQ1 : (fun v m' => zW E (d) 163 4 [(2, 69), (0, a0), (9, 0)] (if v.1 = 9 then [] else v :: []) m' Q) = Q1
  show zW E (d - 1) 148 0 [(0, a0)] [] m0 Q1
  refine zw_3 zr_148_0 rfl ?_
  refine zw_36 zr_148_1 ?_
  refine zw_push zr_148_2 ?_
  refine zw_push zr_148_3 ?_
  refine zw_C zr_148_6 (Or.inr rfl) zm_140 rfl rfl ⟨Nat.le_of_ble_eq_true rfl, Nat.le_of_ble_eq_true rfl, Nat.le_of_ble_eq_true rfl, rfl, by decide⟩ (by omega) (P := (fun v m' => zW E (d - 1) 148 9 [(0, a0)] (if v.1 = 9 then [] else v :: []) m' Q1)) ?_ (fun _ _ h => h)
  generalize hQ2 : (fun v m' => zW E (d - 1) 148 9 [(0, a0)] (if v.1 = 9 then [] else v :: []) m' Q1) = Q2
  show zW E (d - 1 - 1) 140 0 [(1, a0), (9, 0), (1, 0), (9, 0), (1, 3), (9, 0)] [] m0 Q2
  refine zw_5 zr_140_0 rfl ?_
  refine zw_5 zr_140_1 rfl ?_
  refine zw_39_0 zr_140_2 zr_140_3 ?_ ?_
  · intro h1
    refine zw_push zr_140_17 ?_
    refine zw_R zr_140_18 (by decide) zm_140 (v := (0, 0)) (zRetB (by omega)) ?_
    rw [← hQ2]
    show zW E (d - 1) 148 9 [(0, a0)] [(0, 0)] m0 Q1
    refine zw_R zr_148_9 (by decide) zm_148 (v := (0, 0)) (zRetB (by omega)) ?_
    rw [← hQ1]
    show zW E (d) 163 4 [(2, 69), (0, a0), (9, 0)] [(0, 0)] m0 Q
    refine zw_40_4 zr_163_4 ?_ ?_
    · intro h2; omega
    · intro h3
      refine zw_push zr_163_7 ?_
      refine zw_R zr_163_9 (by decide) zm_163 (v := (0, (-2))) rfl ?_
      rw [← hQ]; exact ⟨_, rfl, by omega, by omega, hI0, hF0, by first | exact Or.inr ⟨by omega, _, _, zz⟩ | exact Or.inl ⟨rfl, by omega⟩⟩
  · intro h5
    refine zw_5 zr_140_6 rfl ?_
    refine zw_6 zr_140_7 rfl ?_
    refine zw_39_2 zr_140_9 zr_140_10 ?_ ?_
    · intro h6
      refine zw_push zr_140_17 ?_
      refine zw_R zr_140_18 (by decide) zm_140 (v := (0, 0)) (zRetB (by omega)) ?_
      rw [← hQ2]
      show zW E (d - 1) 148 9 [(0, a0)] [(0, 0)] m0 Q1
      refine zw_R zr_148_9 (by decide) zm_148 (v := (0, 0)) (zRetB (by omega)) ?_
      rw [← hQ1]
      show zW E (d) 163 4 [(2, 69), (0, a0), (9, 0)] [(0, 0)] m0 Q
      refine zw_40_4 zr_163_4 ?_ ?_
      · intro h7; omega
      · intro h8
        refine zw_push zr_163_7 ?_
        refine zw_R zr_163_9 (by decide) zm_163 (v := (0, (-2))) rfl ?_
        rw [← hQ]; exact ⟨_, rfl, by omega, by omega, hI0, hF0, by first | exact Or.inr ⟨by omega, _, _, zz⟩ | exact Or.inl ⟨rfl, by omega⟩⟩
    · intro h10
      refine zw_push zr_140_13 ?_
      refine zw_42 zr_140_14 ?_
      refine zw_R zr_140_18 (by decide) zm_140 (v := (0, 1)) (zRetB (by omega)) ?_
      rw [← hQ2]
      show zW E (d - 1) 148 9 [(0, a0)] [(0, 1)] m0 Q1
      refine zw_R zr_148_9 (by decide) zm_148 (v := (0, 1)) (zRetB (by omega)) ?_
      rw [← hQ1]
      show zW E (d) 163 4 [(2, 69), (0, a0), (9, 0)] [(0, 1)] m0 Q
      refine zw_40_4 zr_163_4 ?_ ?_
      · intro h11
        refine zw_7 zr_163_10 rfl ?_
        refine zw_3 zr_163_11 rfl ?_
        refine zw_C zr_163_12 (Or.inl rfl) zm_162 rfl rfl ⟨Nat.le_of_ble_eq_true rfl, Nat.le_of_ble_eq_true rfl, Nat.le_of_ble_eq_true rfl, rfl, by decide⟩ (by omega) (th_162 (d := d - 1) (by omega) hI0 (a0 := a0)   (F70 := F70) (F75 := m0 75)  hG70 rfl (by omega) ) ?_
        rintro _ m12 ⟨r13, rfl, hr13a, hr13b, hIm12, gm12, po0_r13, po1_r13⟩
        have hFm12 : zFr W_163 m0 m12 := hF0.trans gm12 rfl
        have fm12_70 : m12 70 = F70 := (funext fun k => gm12 70 k rfl).trans hG70
        obtain ⟨f14, ef14⟩ : ∃ v, m12 69 7 = v := ⟨_, rfl⟩
        have bf14 := hIm12.fi (c := 69) (k := 7) rfl
        rw [ef14] at bf14
        rw [ef14] at po0_r13
        rw [ef14] at po1_r13
        obtain ⟨f15, ef15⟩ : ∃ v, m12 69 13 = v := ⟨_, rfl⟩
        have bf15 := hIm12.fl (c := 69) (k := 13) rfl
        rw [ef15] at bf15
        rw [ef15] at po0_r13
        show zW E (d) 163 15 [(2, 69), (0, a0), (9, 0)] [(0, r13)] m12 Q
        refine zw_9 (L' := [(2, 69), (0, a0), (0, r13)]) zr_163_15 (Nat.le_of_ble_eq_true rfl) rfl ?_
        refine zw_7 zr_163_16 rfl ?_
        refine zw_46i zr_163_17 ef14 rfl rfl rfl ?_
        refine zw_R zr_163_20 (by decide) zm_163 (v := (0, f14)) rfl ?_
        rw [← hQ]; exact ⟨_, rfl, by omega, by omega, hIm12, hFm12, by first | exact Or.inr ⟨by omega, _, _, po0_r13⟩ | exact Or.inl ⟨rfl, by omega⟩⟩
      · intro h17; omega

abbrev W_4_44 : List (Nat × Nat) := [(44, 1000)]
set_option maxHeartbeats 8000000 in
theorem th_4_44 {E : zE} {d : Nat} {m0 : zM} {a0 : Int} {F44 : Nat → Int} (hd : 1 ≤ d) (hI0 : zInv m0) (hG44 : m0 44 = F44) (ha0 : 0 ≤ a0 ∧ a0 ≤ 9999) : zC E d 4 [(2, 44), (0, a0)] m0 (fun v m' => v = (9, 0) ∧ zInv m' ∧ zFr W_4_44 m0 m' ∧ (zFil (m' 44) 10 a0)) := by
  have hF0 : zFr W_4_44 m0 m0 := zFr.rfl
  generalize hQ : (fun (v : zV) (m' : zM) => v = (9, 0) ∧ zInv m' ∧ zFr W_4_44 m0 m' ∧ (zFil (m' 44) 10 a0)) = Q
  show zW E d 4 0 [(2, 44), (0, a0), (9, 0), (9, 0)] [] m0 Q
  refine zw_push zr_4_0 ?_
  refine zw_9 (L' := [(2, 44), (0, a0), (0, 0), (9, 0)]) zr_4_1 (Nat.le_of_ble_eq_true rfl) rfl ?_
  refine zw_7 zr_4_2 rfl ?_
  refine zw_101 (c := 44) (len := 10) zr_4_3 rfl rfl (by decide) ?_
  refine zw_9 (L' := [(2, 44), (0, a0), (0, 0), (0, 10)]) zr_4_4 (Nat.le_of_ble_eq_true rfl) rfl ?_
  have lp5_4 : ∀ (nlp5_4 : Nat) (i1 : Int) (f3 : Nat → Int) (m2 : zM), zInv m2 → zFr W_4_44 m0 m2 → m2 44 = f3 → 0 ≤ i1 → i1 ≤ 10 → (zFil f3 i1 a0) → (10 - i1).toNat < nlp5_4 → zW E (d) 4 5 [(2, 44), (0, a0), (0, i1), (0, 10)] [] m2 Q := by
    intro nlp5_4
    induction nlp5_4 with
    | zero =>
      intros
      exact absurd (by assumption : _ < 0) (Nat.not_lt_zero _)
    | succ nlp5_4 ihlp5_4 =>
      intro i1 f3 m2 hIm2 hFm2 fm2_44 li1 ui1 hv0lp5_4 hmlp5_4
      refine zw_3 zr_4_5 rfl ?_
      refine zw_3 zr_4_6 rfl ?_
      refine zw_41_3 zr_4_7 ?_ ?_
      · intro h6
        refine zw_R zr_4_20 (by decide) zm_4 (v := (9, 0)) rfl ?_
        rw [← hQ]; exact ⟨rfl, hIm2, hFm2, by rw [fm2_44]; exact zFil_le hv0lp5_4 (by omega)⟩
      · intro h8
        refine zw_7 zr_4_10 rfl ?_
        refine zw_3 zr_4_11 rfl ?_
        refine zw_3 zr_4_12 rfl ?_
        refine zw_49 (c := 44) (len := 10) zr_4_13 rfl rfl (by omega) (by omega) ?_
        intro m9 em9
        have hIm9 : zInv m9 := by rw [em9]; exact hIm2.any (by omega) rfl (by decide) (by decide)
        have hFm9 : zFr W_4_44 m0 m9 := by rw [em9]; exact hFm2.any rfl
        have fm9_44 : m9 44 = zPt f3 ((i1).toNat) a0 := by rw [em9]; exact (zUp_ff (m := m2)).trans (congrArg (fun q => zPt q ((i1).toNat) a0) fm2_44)
        clear em9
        refine zw_15 (c := 1) (L' := [(2, 44), (0, a0), (0, (i1 + 1)), (0, 10)]) zr_4_14 rfl (by decide) (by omega) rfl ?_
        refine zw_42 zr_4_17 ?_
        exact zw_less (L := [(2, 44), (0, a0), (0, (i1 + 1)), (0, 10)]) ⟨Or.inr rfl, Or.inr rfl, Or.inr rfl, Or.inr rfl, trivial⟩ (ihlp5_4 ((i1 + 1)) (zPt f3 ((i1).toNat) a0) m9 hIm9 hFm9   fm9_44 (by omega) (by omega) (zFil_put hv0lp5_4 (by omega)) (by omega))
  exact lp5_4 _ (0) (F44) m0 hI0 hF0  hG44 (by omega) (by omega) (zFil_0) (Nat.lt_succ_self _)

abbrev W_4_50 : List (Nat × Nat) := [(50, 1000)]
set_option maxHeartbeats 8000000 in
theorem th_4_50 {E : zE} {d : Nat} {m0 : zM} {a0 : Int} {F50 : Nat → Int} (hd : 1 ≤ d) (hI0 : zInv m0) (hG50 : m0 50 = F50) (ha0 : 0 ≤ a0 ∧ a0 ≤ 0) : zC E d 4 [(2, 50), (0, a0)] m0 (fun v m' => v = (9, 0) ∧ zInv m' ∧ zFr W_4_50 m0 m' ∧ (zFil (m' 50) 10 a0)) := by
  have hF0 : zFr W_4_50 m0 m0 := zFr.rfl
  generalize hQ : (fun (v : zV) (m' : zM) => v = (9, 0) ∧ zInv m' ∧ zFr W_4_50 m0 m' ∧ (zFil (m' 50) 10 a0)) = Q
  show zW E d 4 0 [(2, 50), (0, a0), (9, 0), (9, 0)] [] m0 Q
  refine zw_push zr_4_0 ?_
  refine zw_9 (L' := [(2, 50), (0, a0), (0, 0), (9, 0)]) zr_4_1 (Nat.le_of_ble_eq_true rfl) rfl ?_
  refine zw_7 zr_4_2 rfl ?_
  refine zw_101 (c := 50) (len := 10) zr_4_3 rfl rfl (by decide) ?_
  refine zw_9 (L' := [(2, 50), (0, a0), (0, 0), (0, 10)]) zr_4_4 (Nat.le_of_ble_eq_true rfl) rfl ?_
  have lp5_4 : ∀ (nlp5_4 : Nat) (i1 : Int) (f3 : Nat → Int) (m2 : zM), zInv m2 → zFr W_4_50 m0 m2 → m2 50 = f3 → 0 ≤ i1 → i1 ≤ 10 → (zFil f3 i1 a0) → (10 - i1).toNat < nlp5_4 → zW E (d) 4 5 [(2, 50), (0, a0), (0, i1), (0, 10)] [] m2 Q := by
    intro nlp5_4
    induction nlp5_4 with
    | zero =>
      intros
      exact absurd (by assumption : _ < 0) (Nat.not_lt_zero _)
    | succ nlp5_4 ihlp5_4 =>
      intro i1 f3 m2 hIm2 hFm2 fm2_50 li1 ui1 hv0lp5_4 hmlp5_4
      refine zw_3 zr_4_5 rfl ?_
      refine zw_3 zr_4_6 rfl ?_
      refine zw_41_3 zr_4_7 ?_ ?_
      · intro h6
        refine zw_R zr_4_20 (by decide) zm_4 (v := (9, 0)) rfl ?_
        rw [← hQ]; exact ⟨rfl, hIm2, hFm2, by rw [fm2_50]; exact zFil_le hv0lp5_4 (by omega)⟩
      · intro h8
        refine zw_7 zr_4_10 rfl ?_
        refine zw_3 zr_4_11 rfl ?_
        refine zw_3 zr_4_12 rfl ?_
        refine zw_49 (c := 50) (len := 10) zr_4_13 rfl rfl (by omega) (by omega) ?_
        intro m9 em9
        have hIm9 : zInv m9 := by rw [em9]; exact hIm2.any (by omega) rfl (by decide) (by decide)
        have hFm9 : zFr W_4_50 m0 m9 := by rw [em9]; exact hFm2.any rfl
        have fm9_50 : m9 50 = zPt f3 ((i1).toNat) a0 := by rw [em9]; exact (zUp_ff (m := m2)).trans (congrArg (fun q => zPt q ((i1).toNat) a0) fm2_50)
        clear em9
        refine zw_15 (c := 1) (L' := [(2, 50), (0, a0), (0, (i1 + 1)), (0, 10)]) zr_4_14 rfl (by decide) (by omega) rfl ?_
        refine zw_42 zr_4_17 ?_
        exact zw_less (L := [(2, 50), (0, a0), (0, (i1 + 1)), (0, 10)]) ⟨Or.inr rfl, Or.inr rfl, Or.inr rfl, Or.inr rfl, trivial⟩ (ihlp5_4 ((i1 + 1)) (zPt f3 ((i1).toNat) a0) m9 hIm9 hFm9   fm9_50 (by omega) (by omega) (zFil_put hv0lp5_4 (by omega)) (by omega))
  exact lp5_4 _ (0) (F50) m0 hI0 hF0  hG50 (by omega) (by omega) (zFil_0) (Nat.lt_succ_self _)

abbrev W_4_51 : List (Nat × Nat) := [(51, 1000)]
set_option maxHeartbeats 8000000 in
theorem th_4_51 {E : zE} {d : Nat} {m0 : zM} {a0 : Int} {F51 : Nat → Int} (hd : 1 ≤ d) (hI0 : zInv m0) (hG51 : m0 51 = F51) (ha0 : 0 ≤ a0 ∧ a0 ≤ 0) : zC E d 4 [(2, 51), (0, a0)] m0 (fun v m' => v = (9, 0) ∧ zInv m' ∧ zFr W_4_51 m0 m' ∧ (zFil (m' 51) 10 a0)) := by
  have hF0 : zFr W_4_51 m0 m0 := zFr.rfl
  generalize hQ : (fun (v : zV) (m' : zM) => v = (9, 0) ∧ zInv m' ∧ zFr W_4_51 m0 m' ∧ (zFil (m' 51) 10 a0)) = Q
  show zW E d 4 0 [(2, 51), (0, a0), (9, 0), (9, 0)] [] m0 Q
  refine zw_push zr_4_0 ?_
  refine zw_9 (L' := [(2, 51), (0, a0), (0, 0), (9, 0)]) zr_4_1 (Nat.le_of_ble_eq_true rfl) rfl ?_
  refine zw_7 zr_4_2 rfl ?_
  refine zw_101 (c := 51) (len := 10) zr_4_3 rfl rfl (by decide) ?_
  refine zw_9 (L' := [(2, 51), (0, a0), (0, 0), (0, 10)]) zr_4_4 (Nat.le_of_ble_eq_true rfl) rfl ?_
  have lp5_4 : ∀ (nlp5_4 : Nat) (i1 : Int) (f3 : Nat → Int) (m2 : zM), zInv m2 → zFr W_4_51 m0 m2 → m2 51 = f3 → 0 ≤ i1 → i1 ≤ 10 → (zFil f3 i1 a0) → (10 - i1).toNat < nlp5_4 → zW E (d) 4 5 [(2, 51), (0, a0), (0, i1), (0, 10)] [] m2 Q := by
    intro nlp5_4
    induction nlp5_4 with
    | zero =>
      intros
      exact absurd (by assumption : _ < 0) (Nat.not_lt_zero _)
    | succ nlp5_4 ihlp5_4 =>
      intro i1 f3 m2 hIm2 hFm2 fm2_51 li1 ui1 hv0lp5_4 hmlp5_4
      refine zw_3 zr_4_5 rfl ?_
      refine zw_3 zr_4_6 rfl ?_
      refine zw_41_3 zr_4_7 ?_ ?_
      · intro h6
        refine zw_R zr_4_20 (by decide) zm_4 (v := (9, 0)) rfl ?_
        rw [← hQ]; exact ⟨rfl, hIm2, hFm2, by rw [fm2_51]; exact zFil_le hv0lp5_4 (by omega)⟩
      · intro h8
        refine zw_7 zr_4_10 rfl ?_
        refine zw_3 zr_4_11 rfl ?_
        refine zw_3 zr_4_12 rfl ?_
        refine zw_49 (c := 51) (len := 10) zr_4_13 rfl rfl (by omega) (by omega) ?_
        intro m9 em9
        have hIm9 : zInv m9 := by rw [em9]; exact iu_51 hIm2 (by omega)
        have hFm9 : zFr W_4_51 m0 m9 := by rw [em9]; exact hFm2.any rfl
        have fm9_51 : m9 51 = zPt f3 ((i1).toNat) a0 := by rw [em9]; exact (zUp_ff (m := m2)).trans (congrArg (fun q => zPt q ((i1).toNat) a0) fm2_51)
        clear em9
        refine zw_15 (c := 1) (L' := [(2, 51), (0, a0), (0, (i1 + 1)), (0, 10)]) zr_4_14 rfl (by decide) (by omega) rfl ?_
        refine zw_42 zr_4_17 ?_
        exact zw_less (L := [(2, 51), (0, a0), (0, (i1 + 1)), (0, 10)]) ⟨Or.inr rfl, Or.inr rfl, Or.inr rfl, Or.inr rfl, trivial⟩ (ihlp5_4 ((i1 + 1)) (zPt f3 ((i1).toNat) a0) m9 hIm9 hFm9   fm9_51 (by omega) (by omega) (zFil_put hv0lp5_4 (by omega)) (by omega))
  exact lp5_4 _ (0) (F51) m0 hI0 hF0  hG51 (by omega) (by omega) (zFil_0) (Nat.lt_succ_self _)

abbrev W_16 : List (Nat × Nat) := [(44, 1000), (45, 1), (45, 5), (45, 6), (45, 7), (45, 8), (47, 1000), (48, 1000), (50, 1000), (51, 1000)]
set_option maxHeartbeats 8000000 in
theorem th_16 {E : zE} {d : Nat} {m0 : zM} {a0 : Int} {F9 : Nat → Int} {F10 : Nat → Int} {F11 : Nat → Int} {F44 : Nat → Int} {F48 : Nat → Int} {F50 : Nat → Int} {F51 : Nat → Int} (hd : 94 ≤ d) (hI0 : zInv m0) (hG9 : m0 9 = F9) (hG10 : m0 10 = F10) (hG11 : m0 11 = F11) (hG44 : m0 44 = F44) (hG48 : m0 48 = F48) (hG50 : m0 50 = F50) (hG51 : m0 51 = F51) (ha0 : 0 ≤ a0 ∧ a0 ≤ 3) : zC E d 16 [(2, 43), (0, a0)] m0 (fun v m' => v = (9, 0) ∧ zInv m' ∧ zFr W_16 m0 m' ∧ (zPc (chc F11 F10 a0) (m' 48) (m' 45 8) (m' 45 1)) ∧ (zS0 (m' 44, m' 50, m' 51) (F9 a0.toNat))) := by
  have hF0 : zFr W_16 m0 m0 := zFr.rfl
  generalize hQ : (fun (v : zV) (m' : zM) => v = (9, 0) ∧ zInv m' ∧ zFr W_16 m0 m' ∧ (zPc (chc F11 F10 a0) (m' 48) (m' 45 8) (m' 45 1)) ∧ (zS0 (m' 44, m' 50, m' 51) (F9 a0.toNat))) = Q
  show zW E d 16 0 [(2, 43), (0, a0)] [] m0 Q
  refine zw_7 zr_16_0 rfl ?_
  refine zw_46r (s := 45) zr_16_1 rfl rfl rfl rfl ?_
  refine zw_7 zr_16_4 rfl ?_
  refine zw_46r (s := 1) zr_16_5 rfl rfl rfl rfl ?_
  refine zw_3 zr_16_8 rfl ?_
  refine zw_C zr_16_9 (Or.inl rfl) zm_15 rfl rfl ⟨Nat.le_of_ble_eq_true rfl, Nat.le_of_ble_eq_true rfl, Nat.le_of_ble_eq_true rfl, rfl, by decide⟩ (by omega) (th_15_1 (d := d - 1) (by omega) hI0 (a0 := a0)   (F10 := F10) (F11 := F11) (F47 := m0 47) (F48 := F48)  hG10 hG11 rfl hG48 (by omega) ) ?_
  rintro _ m1 ⟨rfl, hIm1, gm1, po0_m1⟩
  have hFm1 : zFr W_16 m0 m1 := hF0.trans gm1 rfl
  have fm1_9 : m1 9 = F9 := (funext fun k => gm1 9 k rfl).trans hG9
  have fm1_10 : m1 10 = F10 := (funext fun k => gm1 10 k rfl).trans hG10
  have fm1_11 : m1 11 = F11 := (funext fun k => gm1 11 k rfl).trans hG11
  have fm1_44 : m1 44 = F44 := (funext fun k => gm1 44 k rfl).trans hG44
  obtain ⟨f2, fm1_48⟩ : ∃ f, m1 48 = f := ⟨_, rfl⟩
  try rw [fm1_48] at po0_m1
  have fm1_50 : m1 50 = F50 := (funext fun k => gm1 50 k rfl).trans hG50
  have fm1_51 : m1 51 = F51 := (funext fun k => gm1 51 k rfl).trans hG51
  obtain ⟨f3, ef3⟩ : ∃ v, m1 45 1 = v := ⟨_, rfl⟩
  have bf3 := hIm1.fi (c := 45) (k := 1) rfl
  rw [ef3] at bf3
  rw [ef3] at po0_m1
  obtain ⟨f4, ef4⟩ : ∃ v, m1 45 8 = v := ⟨_, rfl⟩
  have bf4 := ib_45_8 hIm1
  rw [ef4] at bf4
  rw [ef4] at po0_m1
  show zW E (d) 16 12 [(2, 43), (0, a0)] [] m1 Q
  refine zw_7 zr_16_12 rfl ?_
  refine zw_46r (s := 44) zr_16_13 rfl rfl rfl rfl ?_
  refine zw_7 zr_16_16 rfl ?_
  refine zw_46r (s := 1) zr_16_17 rfl rfl rfl rfl ?_
  refine zw_46r (s := 9) zr_16_20 rfl rfl rfl rfl ?_
  refine zw_3 zr_16_23 rfl ?_
  refine zw_48 (c := 9) (len := 4) zr_16_24 rfl rfl (by omega) (by omega) ?_
  intro x5 ex5
  have bx5 := ib_9 hIm1 (k := (a0).toNat) (by omega)
  rw [← ex5] at bx5
  have qx5 : x5 = F9 (a0).toNat := by rw [← fm1_9]; exact ex5
  clear ex5
  refine zw_C zr_16_25 (Or.inr rfl) zm_4 rfl rfl ⟨Nat.le_of_ble_eq_true rfl, Nat.le_of_ble_eq_true rfl, Nat.le_of_ble_eq_true rfl, rfl, by decide⟩ (by omega) (th_4_44 (d := d - 1) (by omega) hIm1 (a0 := x5)   (F44 := F44)  fm1_44 (by omega) ) ?_
  rintro _ m6 ⟨rfl, hIm6, gm6, po0_m6⟩
  have hFm6 : zFr W_16 m0 m6 := hFm1.trans gm6 rfl
  have km6_45_1 : m6 45 1 = f3 := (gm6 45 1 rfl).trans ef3
  have km6_45_8 : m6 45 8 = f4 := (gm6 45 8 rfl).trans ef4
  have fm6_9 : m6 9 = F9 := (funext fun k => gm6 9 k rfl).trans fm1_9
  have fm6_10 : m6 10 = F10 := (funext fun k => gm6 10 k rfl).trans fm1_10
  have fm6_11 : m6 11 = F11 := (funext fun k => gm6 11 k rfl).trans fm1_11
  obtain ⟨f7, fm6_44⟩ : ∃ f, m6 44 = f := ⟨_, rfl⟩
  try rw [fm6_44] at po0_m6
  have fm6_48 : m6 48 = f2 := (funext fun k => gm6 48 k rfl).trans fm1_48
  have fm6_50 : m6 50 = F50 := (funext fun k => gm6 50 k rfl).trans fm1_50
  have fm6_51 : m6 51 = F51 := (funext fun k => gm6 51 k rfl).trans fm1_51
  show zW E (d) 16 28 [(2, 43), (0, a0)] [] m6 Q
  refine zw_7 zr_16_28 rfl ?_
  refine zw_46r (s := 50) zr_16_29 rfl rfl rfl rfl ?_
  refine zw_push zr_16_32 ?_
  refine zw_C zr_16_33 (Or.inr rfl) zm_4 rfl rfl ⟨Nat.le_of_ble_eq_true rfl, Nat.le_of_ble_eq_true rfl, Nat.le_of_ble_eq_true rfl, rfl, by decide⟩ (by omega) (th_4_50 (d := d - 1) (by omega) hIm6 (a0 := 0)   (F50 := F50)  fm6_50 (by omega) ) ?_
  rintro _ m8 ⟨rfl, hIm8, gm8, po0_m8⟩
  have hFm8 : zFr W_16 m0 m8 := hFm6.trans gm8 rfl
  have km8_45_1 : m8 45 1 = f3 := (gm8 45 1 rfl).trans km6_45_1
  have km8_45_8 : m8 45 8 = f4 := (gm8 45 8 rfl).trans km6_45_8
  have fm8_9 : m8 9 = F9 := (funext fun k => gm8 9 k rfl).trans fm6_9
  have fm8_10 : m8 10 = F10 := (funext fun k => gm8 10 k rfl).trans fm6_10
  have fm8_11 : m8 11 = F11 := (funext fun k => gm8 11 k rfl).trans fm6_11
  have fm8_44 : m8 44 = f7 := (funext fun k => gm8 44 k rfl).trans fm6_44
  have fm8_48 : m8 48 = f2 := (funext fun k => gm8 48 k rfl).trans fm6_48
  obtain ⟨f9, fm8_50⟩ : ∃ f, m8 50 = f := ⟨_, rfl⟩
  try rw [fm8_50] at po0_m8
  have fm8_51 : m8 51 = F51 := (funext fun k => gm8 51 k rfl).trans fm6_51
  show zW E (d) 16 36 [(2, 43), (0, a0)] [] m8 Q
  refine zw_7 zr_16_36 rfl ?_
  refine zw_46r (s := 51) zr_16_37 rfl rfl rfl rfl ?_
  refine zw_push zr_16_40 ?_
  refine zw_C zr_16_41 (Or.inr rfl) zm_4 rfl rfl ⟨Nat.le_of_ble_eq_true rfl, Nat.le_of_ble_eq_true rfl, Nat.le_of_ble_eq_true rfl, rfl, by decide⟩ (by omega) (th_4_51 (d := d - 1) (by omega) hIm8 (a0 := 0)   (F51 := F51)  fm8_51 (by omega) ) ?_
  rintro _ m10 ⟨rfl, hIm10, gm10, po0_m10⟩
  have hFm10 : zFr W_16 m0 m10 := hFm8.trans gm10 rfl
  have km10_45_1 : m10 45 1 = f3 := (gm10 45 1 rfl).trans km8_45_1
  have km10_45_8 : m10 45 8 = f4 := (gm10 45 8 rfl).trans km8_45_8
  have fm10_9 : m10 9 = F9 := (funext fun k => gm10 9 k rfl).trans fm8_9
  have fm10_10 : m10 10 = F10 := (funext fun k => gm10 10 k rfl).trans fm8_10
  have fm10_11 : m10 11 = F11 := (funext fun k => gm10 11 k rfl).trans fm8_11
  have fm10_44 : m10 44 = f7 := (funext fun k => gm10 44 k rfl).trans fm8_44
  have fm10_48 : m10 48 = f2 := (funext fun k => gm10 48 k rfl).trans fm8_48
  have fm10_50 : m10 50 = f9 := (funext fun k => gm10 50 k rfl).trans fm8_50
  obtain ⟨f11, fm10_51⟩ : ∃ f, m10 51 = f := ⟨_, rfl⟩
  try rw [fm10_51] at po0_m10
  show zW E (d) 16 44 [(2, 43), (0, a0)] [] m10 Q
  refine zw_R zr_16_44 (by decide) zm_16 (v := (9, 0)) rfl ?_
  rw [← hQ]; exact ⟨rfl, hIm10, hFm10, by rw [fm10_48, km10_45_8, km10_45_1]; exact po0_m1, by rw [fm10_44, fm10_50, fm10_51, ← qx5]; exact zS0_f po0_m6 po0_m8 po0_m10 (by omega)⟩

set_option maxHeartbeats 8000000 in
theorem th_21 {E : zE} {d : Nat} {m0 : zM} {a0 : Int} {a1 : Int} {a2 : Int} (hd : 1 ≤ d) (hI0 : zInv m0) (ha0 : (-9223372036854775808) ≤ a0 ∧ a0 ≤ 9223372036854775807) (ha1 : 1 ≤ a1 ∧ a1 ≤ 127) (ha2 : (-9223372036854775808) ≤ a2 ∧ a2 ≤ 9223372036854775807) : zC E d 21 [(1, a0), (0, a1), (1, a2)] m0 (fun v m' => ∃ r : Int, v = (1, r) ∧ (-9223372036854775808) ≤ r ∧ r ≤ 9223372036854775807 ∧ m0 = m' ∧ (r = opv a1 a0 a2)) := by
  generalize hQ : (fun (v : zV) (m' : zM) => ∃ r : Int, v = (1, r) ∧ (-9223372036854775808) ≤ r ∧ r ≤ 9223372036854775807 ∧ m0 = m' ∧ (r = opv a1 a0 a2)) = Q
  show zW E d 21 0 [(1, a0), (9, 0), (0, a1), (1, a2), (9, 0)] [] m0 Q
  refine zw_3 zr_21_0 rfl ?_
  by_cases h1 : a1 = 38
  · refine zw_112 (off := 93) (t := 94) zr_21_1 (by rw [h1]; rfl) rfl ?_
    refine zw_5 zr_21_94 rfl ?_
    refine zw_push zr_21_95 ?_
    refine zw_39_1 zr_21_96 zr_21_97 ?_ ?_
    · intro h2
      refine zw_push zr_21_110 ?_
      refine zw_R zr_21_111 (by decide) zm_21 (v := (1, 0)) rfl ?_
      rw [← hQ]; exact ⟨_, rfl, by omega, by omega, rfl, by first | exact opv_e1 (by omega) (by omega) | exact opv_e2 (by omega) (by omega) | exact opv_e3 (by omega) (by omega) | exact opv_e4 (by omega) (by omega) | exact opv_e5 (by omega) (by omega) | exact opv_e6 (by omega) (by assumption) | exact opv_e7 (by omega) (by assumption) | exact opv_e8 (by omega) (by assumption) | exact opv_e9 (by omega) (by omega)⟩
    · intro h4
      refine zw_5 zr_21_100 rfl ?_
      refine zw_push zr_21_101 ?_
      refine zw_39_1 zr_21_102 zr_21_103 ?_ ?_
      · intro h5
        refine zw_push zr_21_110 ?_
        refine zw_R zr_21_111 (by decide) zm_21 (v := (1, 0)) rfl ?_
        rw [← hQ]; exact ⟨_, rfl, by omega, by omega, rfl, by first | exact opv_e1 (by omega) (by omega) | exact opv_e2 (by omega) (by omega) | exact opv_e3 (by omega) (by omega) | exact opv_e4 (by omega) (by omega) | exact opv_e5 (by omega) (by omega) | exact opv_e6 (by omega) (by assumption) | exact opv_e7 (by omega) (by assumption) | exact opv_e8 (by omega) (by assumption) | exact opv_e9 (by omega) (by omega)⟩
      · intro h7
        refine zw_push zr_21_106 ?_
        refine zw_42 zr_21_107 ?_
        refine zw_R zr_21_111 (by decide) zm_21 (v := (1, 1)) rfl ?_
        rw [← hQ]; exact ⟨_, rfl, by omega, by omega, rfl, by first | exact opv_e1 (by omega) (by omega) | exact opv_e2 (by omega) (by omega) | exact opv_e3 (by omega) (by omega) | exact opv_e4 (by omega) (by omega) | exact opv_e5 (by omega) (by omega) | exact opv_e6 (by omega) (by assumption) | exact opv_e7 (by omega) (by assumption) | exact opv_e8 (by omega) (by assumption) | exact opv_e9 (by omega) (by omega)⟩
  by_cases h9 : a1 = 42
  · refine zw_112 (off := 155) (t := 156) zr_21_1 (by rw [h9]; rfl) rfl ?_
    refine zw_5 zr_21_156 rfl ?_
    refine zw_5 zr_21_157 rfl ?_
    refine zw_29x zr_21_158 ?_
    intro x10 ex10 hx10a hx10b
    refine zw_R zr_21_159 (by decide) zm_21 (v := (1, x10)) rfl ?_
    rw [← hQ]; exact ⟨_, rfl, by omega, by omega, rfl, by first | exact opv_e1 (by omega) (by omega) | exact opv_e2 (by omega) (by omega) | exact opv_e3 (by omega) (by omega) | exact opv_e4 (by omega) (by omega) | exact opv_e5 (by omega) (by omega) | exact opv_e6 (by omega) (by assumption) | exact opv_e7 (by omega) (by assumption) | exact opv_e8 (by omega) (by assumption) | exact opv_e9 (by omega) (by omega)⟩
  by_cases h12 : a1 = 43
  · refine zw_112 (off := 147) (t := 148) zr_21_1 (by rw [h12]; rfl) rfl ?_
    refine zw_5 zr_21_148 rfl ?_
    refine zw_5 zr_21_149 rfl ?_
    refine zw_27x zr_21_150 ?_
    intro x13 ex13 hx13a hx13b
    refine zw_R zr_21_151 (by decide) zm_21 (v := (1, x13)) rfl ?_
    rw [← hQ]; exact ⟨_, rfl, by omega, by omega, rfl, by first | exact opv_e1 (by omega) (by omega) | exact opv_e2 (by omega) (by omega) | exact opv_e3 (by omega) (by omega) | exact opv_e4 (by omega) (by omega) | exact opv_e5 (by omega) (by omega) | exact opv_e6 (by omega) (by assumption) | exact opv_e7 (by omega) (by assumption) | exact opv_e8 (by omega) (by assumption) | exact opv_e9 (by omega) (by omega)⟩
  by_cases h15 : a1 = 45
  · refine zw_112 (off := 151) (t := 152) zr_21_1 (by rw [h15]; rfl) rfl ?_
    refine zw_5 zr_21_152 rfl ?_
    refine zw_5 zr_21_153 rfl ?_
    refine zw_28x zr_21_154 ?_
    intro x16 ex16 hx16a hx16b
    refine zw_R zr_21_155 (by decide) zm_21 (v := (1, x16)) rfl ?_
    rw [← hQ]; exact ⟨_, rfl, by omega, by omega, rfl, by first | exact opv_e1 (by omega) (by omega) | exact opv_e2 (by omega) (by omega) | exact opv_e3 (by omega) (by omega) | exact opv_e4 (by omega) (by omega) | exact opv_e5 (by omega) (by omega) | exact opv_e6 (by omega) (by assumption) | exact opv_e7 (by omega) (by assumption) | exact opv_e8 (by omega) (by assumption) | exact opv_e9 (by omega) (by omega)⟩
  by_cases h18 : a1 = 60
  · refine zw_112 (off := 111) (t := 112) zr_21_1 (by rw [h18]; rfl) rfl ?_
    refine zw_5 zr_21_112 rfl ?_
    refine zw_5 zr_21_113 rfl ?_
    refine zw_39_3 zr_21_114 zr_21_115 ?_ ?_
    · intro h19
      refine zw_push zr_21_122 ?_
      refine zw_R zr_21_123 (by decide) zm_21 (v := (1, 0)) rfl ?_
      rw [← hQ]; exact ⟨_, rfl, by omega, by omega, rfl, by first | exact opv_e1 (by omega) (by omega) | exact opv_e2 (by omega) (by omega) | exact opv_e3 (by omega) (by omega) | exact opv_e4 (by omega) (by omega) | exact opv_e5 (by omega) (by omega) | exact opv_e6 (by omega) (by assumption) | exact opv_e7 (by omega) (by assumption) | exact opv_e8 (by omega) (by assumption) | exact opv_e9 (by omega) (by omega)⟩
    · intro h21
      refine zw_push zr_21_118 ?_
      refine zw_42 zr_21_119 ?_
      refine zw_R zr_21_123 (by decide) zm_21 (v := (1, 1)) rfl ?_
      rw [← hQ]; exact ⟨_, rfl, by omega, by omega, rfl, by first | exact opv_e1 (by omega) (by omega) | exact opv_e2 (by omega) (by omega) | exact opv_e3 (by omega) (by omega) | exact opv_e4 (by omega) (by omega) | exact opv_e5 (by omega) (by omega) | exact opv_e6 (by omega) (by assumption) | exact opv_e7 (by omega) (by assumption) | exact opv_e8 (by omega) (by assumption) | exact opv_e9 (by omega) (by omega)⟩
  by_cases h23 : a1 = 61
  · refine zw_112 (off := 135) (t := 136) zr_21_1 (by rw [h23]; rfl) rfl ?_
    refine zw_5 zr_21_136 rfl ?_
    refine zw_5 zr_21_137 rfl ?_
    refine zw_39_4 zr_21_138 zr_21_139 ?_ ?_
    · intro h24
      refine zw_push zr_21_146 ?_
      refine zw_R zr_21_147 (by decide) zm_21 (v := (1, 0)) rfl ?_
      rw [← hQ]; exact ⟨_, rfl, by omega, by omega, rfl, by first | exact opv_e1 (by omega) (by omega) | exact opv_e2 (by omega) (by omega) | exact opv_e3 (by omega) (by omega) | exact opv_e4 (by omega) (by omega) | exact opv_e5 (by omega) (by omega) | exact opv_e6 (by omega) (by assumption) | exact opv_e7 (by omega) (by assumption) | exact opv_e8 (by omega) (by assumption) | exact opv_e9 (by omega) (by omega)⟩
    · intro h26
      refine zw_push zr_21_142 ?_
      refine zw_42 zr_21_143 ?_
      refine zw_R zr_21_147 (by decide) zm_21 (v := (1, 1)) rfl ?_
      rw [← hQ]; exact ⟨_, rfl, by omega, by omega, rfl, by first | exact opv_e1 (by omega) (by omega) | exact opv_e2 (by omega) (by omega) | exact opv_e3 (by omega) (by omega) | exact opv_e4 (by omega) (by omega) | exact opv_e5 (by omega) (by omega) | exact opv_e6 (by omega) (by assumption) | exact opv_e7 (by omega) (by assumption) | exact opv_e8 (by omega) (by assumption) | exact opv_e9 (by omega) (by omega)⟩
  by_cases h28 : a1 = 62
  · refine zw_112 (off := 123) (t := 124) zr_21_1 (by rw [h28]; rfl) rfl ?_
    refine zw_5 zr_21_124 rfl ?_
    refine zw_5 zr_21_125 rfl ?_
    refine zw_39_5 zr_21_126 zr_21_127 ?_ ?_
    · intro h29
      refine zw_push zr_21_134 ?_
      refine zw_R zr_21_135 (by decide) zm_21 (v := (1, 0)) rfl ?_
      rw [← hQ]; exact ⟨_, rfl, by omega, by omega, rfl, by first | exact opv_e1 (by omega) (by omega) | exact opv_e2 (by omega) (by omega) | exact opv_e3 (by omega) (by omega) | exact opv_e4 (by omega) (by omega) | exact opv_e5 (by omega) (by omega) | exact opv_e6 (by omega) (by assumption) | exact opv_e7 (by omega) (by assumption) | exact opv_e8 (by omega) (by assumption) | exact opv_e9 (by omega) (by omega)⟩
    · intro h31
      refine zw_push zr_21_130 ?_
      refine zw_42 zr_21_131 ?_
      refine zw_R zr_21_135 (by decide) zm_21 (v := (1, 1)) rfl ?_
      rw [← hQ]; exact ⟨_, rfl, by omega, by omega, rfl, by first | exact opv_e1 (by omega) (by omega) | exact opv_e2 (by omega) (by omega) | exact opv_e3 (by omega) (by omega) | exact opv_e4 (by omega) (by omega) | exact opv_e5 (by omega) (by omega) | exact opv_e6 (by omega) (by assumption) | exact opv_e7 (by omega) (by assumption) | exact opv_e8 (by omega) (by assumption) | exact opv_e9 (by omega) (by omega)⟩
  by_cases h33 : a1 = 124
  · refine zw_112 (off := 75) (t := 76) zr_21_1 (by rw [h33]; rfl) rfl ?_
    refine zw_5 zr_21_76 rfl ?_
    refine zw_push zr_21_77 ?_
    refine zw_39_4 zr_21_78 zr_21_79 ?_ ?_
    · intro h34
      refine zw_push zr_21_88 ?_
      refine zw_42 zr_21_89 ?_
      refine zw_R zr_21_93 (by decide) zm_21 (v := (1, 1)) rfl ?_
      rw [← hQ]; exact ⟨_, rfl, by omega, by omega, rfl, by first | exact opv_e1 (by omega) (by omega) | exact opv_e2 (by omega) (by omega) | exact opv_e3 (by omega) (by omega) | exact opv_e4 (by omega) (by omega) | exact opv_e5 (by omega) (by omega) | exact opv_e6 (by omega) (by assumption) | exact opv_e7 (by omega) (by assumption) | exact opv_e8 (by omega) (by assumption) | exact opv_e9 (by omega) (by omega)⟩
    · intro h36
      refine zw_5 zr_21_82 rfl ?_
      refine zw_push zr_21_83 ?_
      refine zw_39_1 zr_21_84 zr_21_85 ?_ ?_
      · intro h37
        refine zw_push zr_21_92 ?_
        refine zw_R zr_21_93 (by decide) zm_21 (v := (1, 0)) rfl ?_
        rw [← hQ]; exact ⟨_, rfl, by omega, by omega, rfl, by first | exact opv_e1 (by omega) (by omega) | exact opv_e2 (by omega) (by omega) | exact opv_e3 (by omega) (by omega) | exact opv_e4 (by omega) (by omega) | exact opv_e5 (by omega) (by omega) | exact opv_e6 (by omega) (by assumption) | exact opv_e7 (by omega) (by assumption) | exact opv_e8 (by omega) (by assumption) | exact opv_e9 (by omega) (by omega)⟩
      · intro h39
        refine zw_push zr_21_88 ?_
        refine zw_42 zr_21_89 ?_
        refine zw_R zr_21_93 (by decide) zm_21 (v := (1, 1)) rfl ?_
        rw [← hQ]; exact ⟨_, rfl, by omega, by omega, rfl, by first | exact opv_e1 (by omega) (by omega) | exact opv_e2 (by omega) (by omega) | exact opv_e3 (by omega) (by omega) | exact opv_e4 (by omega) (by omega) | exact opv_e5 (by omega) (by omega) | exact opv_e6 (by omega) (by assumption) | exact opv_e7 (by omega) (by assumption) | exact opv_e8 (by omega) (by assumption) | exact opv_e9 (by omega) (by omega)⟩
  refine zw_112 (off := 159) (t := 160) zr_21_1 (zlsw_df (by simp; omega)) rfl ?_
  refine zw_5 zr_21_160 rfl ?_
  refine zw_push zr_21_161 ?_
  refine zw_39_4 zr_21_162 zr_21_163 ?_ ?_
  · intro h41
    refine zw_5 zr_21_170 rfl ?_
    refine zw_5 zr_21_171 rfl ?_
    refine zw_118x zr_21_172 (by omega) ?_
    intro x42 ex42 hx42a hx42b
    refine zw_R zr_21_173 (by decide) zm_21 (v := (1, x42)) rfl ?_
    rw [← hQ]; exact ⟨_, rfl, by omega, by omega, rfl, by first | exact opv_e1 (by omega) (by omega) | exact opv_e2 (by omega) (by omega) | exact opv_e3 (by omega) (by omega) | exact opv_e4 (by omega) (by omega) | exact opv_e5 (by omega) (by omega) | exact opv_e6 (by omega) (by assumption) | exact opv_e7 (by omega) (by assumption) | exact opv_e8 (by omega) (by assumption) | exact opv_e9 (by omega) (by omega)⟩
  · intro h44
    refine zw_push zr_21_166 ?_
    refine zw_42 zr_21_167 ?_
    refine zw_R zr_21_173 (by decide) zm_21 (v := (1, 0)) rfl ?_
    rw [← hQ]; exact ⟨_, rfl, by omega, by omega, rfl, by first | exact opv_e1 (by omega) (by omega) | exact opv_e2 (by omega) (by omega) | exact opv_e3 (by omega) (by omega) | exact opv_e4 (by omega) (by omega) | exact opv_e5 (by omega) (by omega) | exact opv_e6 (by omega) (by assumption) | exact opv_e7 (by omega) (by assumption) | exact opv_e8 (by omega) (by assumption) | exact opv_e9 (by omega) (by omega)⟩

abbrev W_22 : List (Nat × Nat) := [(45, 9), (49, 1000)]
set_option maxHeartbeats 8000000 in
theorem th_22 {E : zE} {d : Nat} {m0 : zM} {a0 : Int} {g0 : Int} {F46 : Nat → Int} {F49 : Nat → Int} (hd : 2 ≤ d) (hI0 : zInv m0) (hg0 : m0 45 9 = g0) (hG46 : m0 46 = F46) (hG49 : m0 49 = F49) (ha0 : 1 ≤ a0 ∧ a0 ≤ 127) (hp0 : 1 ≤ a0) (hp1 : g0 ≤ 49) : zC E d 22 [(2, 45), (0, a0)] m0 (fun v m' => v = (9, 0) ∧ zInv m' ∧ zFr W_22 m0 m' ∧ (slv (m' 49) (m' 45 9).toNat = evs (nmf F46) (-a0) (slv F49 g0.toNat)) ∧ (0 ≤ m' 45 9 ∧ m' 45 9 ≤ g0 + 1)) := by
  have hF0 : zFr W_22 m0 m0 := zFr.rfl
  have bg0 := ib_45_9 hI0
  rw [hg0] at bg0
  generalize hQ : (fun (v : zV) (m' : zM) => v = (9, 0) ∧ zInv m' ∧ zFr W_22 m0 m' ∧ (slv (m' 49) (m' 45 9).toNat = evs (nmf F46) (-a0) (slv F49 g0.toNat)) ∧ (0 ≤ m' 45 9 ∧ m' 45 9 ≤ g0 + 1)) = Q
  show zW E d 22 0 [(2, 45), (0, a0), (9, 0), (9, 0), (9, 0)] [] m0 Q
  refine zw_3 zr_22_0 rfl ?_
  refine zw_C zr_22_1 (Or.inr rfl) zm_10 rfl rfl ⟨Nat.le_of_ble_eq_true rfl, Nat.le_of_ble_eq_true rfl, Nat.le_of_ble_eq_true rfl, rfl, by decide⟩ (by omega) (th_10 (d := d - 1) (by omega) hI0 (a0 := a0)      (by omega) ) ?_
  rintro _ _ ⟨r1, rfl, hr1a, hr1b, rfl, po0_r1, po1_r1⟩
  show zW E (d) 22 4 [(2, 45), (0, a0), (9, 0), (9, 0), (9, 0)] [(0, r1)] m0 Q
  refine zw_9 (L' := [(2, 45), (0, a0), (0, r1), (9, 0), (9, 0)]) zr_22_4 (Nat.le_of_ble_eq_true rfl) rfl ?_
  refine zw_3 zr_22_5 rfl ?_
  refine zw_push zr_22_6 ?_
  refine zw_41_1 zr_22_7 ?_ ?_
  · intro h2
    refine zw_7 zr_22_21 rfl ?_
    refine zw_C zr_22_22 (Or.inl rfl) zm_20 rfl rfl ⟨Nat.le_of_ble_eq_true rfl, Nat.le_of_ble_eq_true rfl, Nat.le_of_ble_eq_true rfl, rfl, by decide⟩ (by omega) (P := (fun v m' => zW E (d) 22 25 [(2, 45), (0, a0), (0, r1), (9, 0), (9, 0)] (if v.1 = 9 then [] else v :: []) m' Q)) ?_ (fun _ _ h => h)
    generalize hQ1 : (fun v m' => zW E (d) 22 25 [(2, 45), (0, a0), (0, r1), (9, 0), (9, 0)] (if v.1 = 9 then [] else v :: []) m' Q) = Q1
    show zW E (d - 1) 20 0 [(2, 45)] [] m0 Q1
    refine zw_7 zr_20_0 rfl ?_
    refine zw_46i zr_20_1 hg0 rfl rfl rfl ?_
    refine zw_40_2 zr_20_4 ?_ ?_
    · intro h3
      refine zw_7 zr_20_9 rfl ?_
      refine zw_43 zr_20_10 rfl ?_
      refine zw_46i zr_20_11 hg0 rfl rfl rfl ?_
      refine zw_push zr_20_14 ?_
      refine zw_17 zr_20_15 (by omega) ?_
      refine zw_47 (c := 45) zr_20_16 rfl ⟨rfl, by decide, rfl⟩ ?_
      intro m4 em4
      have hIm4 : zInv m4 := by rw [em4]; exact hI0.bd (r := 45) (k := 9) (lo := 0) (hi := 50) rfl (by omega) (by decide) (by decide) (by decide)
      have hFm4 : zFr W_22 m0 m4 := by rw [em4]; exact hF0.up rfl
      have km4_45_9 : m4 45 9 = (g0 - 1) := by rw [em4]; exact zUp_eq _ _ _ _
      have fm4_46 : m4 46 = F46 := by rw [em4, zUp_fn (by decide)]; exact hG46
      have fm4_49 : m4 49 = F49 := by rw [em4, zUp_fn (by decide)]; exact hG49
      clear em4
      refine zw_7 zr_20_19 rfl ?_
      refine zw_46r (s := 49) zr_20_20 rfl rfl rfl rfl ?_
      refine zw_7 zr_20_23 rfl ?_
      refine zw_46i zr_20_24 km4_45_9 rfl rfl rfl ?_
      refine zw_50 (c := 49) (len := 50) zr_20_27 rfl rfl (by omega) (by omega) ?_
      intro x5 ex5
      have bx5 := hIm4.rl (c := 49) (len := 50) (k := ((g0 - 1)).toNat) rfl (by omega)
      rw [← ex5] at bx5
      have qx5 : x5 = F49 ((g0 - 1)).toNat := by rw [← fm4_49]; exact ex5
      clear ex5
      refine zw_R zr_20_28 (by decide) zm_20 (v := (1, x5)) rfl ?_
      rw [← hQ1]
      show zW E (d) 22 25 [(2, 45), (0, a0), (0, r1), (9, 0), (9, 0)] [(1, x5)] m4 Q
      have hP1 : zPop F49 g0 x5 (g0 - 1) := by first | exact Or.inl (by omega) | exact Or.inr ⟨by omega, qx5, by omega⟩
      refine zw_13 (L' := [(2, 45), (0, a0), (0, r1), (1, x5), (9, 0)]) zr_22_25 (Nat.le_of_ble_eq_true rfl) rfl ?_
      refine zw_3 zr_22_26 rfl ?_
      refine zw_push zr_22_27 ?_
      refine zw_41_4 zr_22_29 ?_ ?_
      · intro h7
        refine zw_3 zr_22_50 rfl ?_
        refine zw_push zr_22_51 ?_
        refine zw_41_4 zr_22_53 ?_ ?_
        · intro h8
          refine zw_7 zr_22_65 rfl ?_
          refine zw_7 zr_22_66 rfl ?_
          refine zw_C zr_22_67 (Or.inl rfl) zm_20 rfl rfl ⟨Nat.le_of_ble_eq_true rfl, Nat.le_of_ble_eq_true rfl, Nat.le_of_ble_eq_true rfl, rfl, by decide⟩ (by omega) (P := (fun v m' => zW E (d) 22 70 [(2, 45), (0, a0), (0, r1), (1, x5), (9, 0)] (if v.1 = 9 then [(2, 45)] else v :: [(2, 45)]) m' Q)) ?_ (fun _ _ h => h)
          generalize hQ1 : (fun v m' => zW E (d) 22 70 [(2, 45), (0, a0), (0, r1), (1, x5), (9, 0)] (if v.1 = 9 then [(2, 45)] else v :: [(2, 45)]) m' Q) = Q1
          show zW E (d - 1) 20 0 [(2, 45)] [] m4 Q1
          refine zw_7 zr_20_0 rfl ?_
          refine zw_46i zr_20_1 km4_45_9 rfl rfl rfl ?_
          refine zw_40_2 zr_20_4 ?_ ?_
          · intro h9
            refine zw_7 zr_20_9 rfl ?_
            refine zw_43 zr_20_10 rfl ?_
            refine zw_46i zr_20_11 km4_45_9 rfl rfl rfl ?_
            refine zw_push zr_20_14 ?_
            refine zw_17 zr_20_15 (by omega) ?_
            refine zw_47 (c := 45) zr_20_16 rfl ⟨rfl, by decide, rfl⟩ ?_
            intro m10 em10
            have hIm10 : zInv m10 := by rw [em10]; exact hIm4.bd (r := 45) (k := 9) (lo := 0) (hi := 50) rfl (by omega) (by decide) (by decide) (by decide)
            have hFm10 : zFr W_22 m0 m10 := by rw [em10]; exact hFm4.up rfl
            have km10_45_9 : m10 45 9 = ((g0 - 1) - 1) := by rw [em10]; exact zUp_eq _ _ _ _
            have fm10_46 : m10 46 = F46 := by rw [em10, zUp_fn (by decide)]; exact fm4_46
            have fm10_49 : m10 49 = F49 := by rw [em10, zUp_fn (by decide)]; exact fm4_49
            clear em10
            refine zw_7 zr_20_19 rfl ?_
            refine zw_46r (s := 49) zr_20_20 rfl rfl rfl rfl ?_
            refine zw_7 zr_20_23 rfl ?_
            refine zw_46i zr_20_24 km10_45_9 rfl rfl rfl ?_
            refine zw_50 (c := 49) (len := 50) zr_20_27 rfl rfl (by omega) (by omega) ?_
            intro x11 ex11
            have bx11 := hIm10.rl (c := 49) (len := 50) (k := (((g0 - 1) - 1)).toNat) rfl (by omega)
            rw [← ex11] at bx11
            have qx11 : x11 = F49 (((g0 - 1) - 1)).toNat := by rw [← fm10_49]; exact ex11
            clear ex11
            refine zw_R zr_20_28 (by decide) zm_20 (v := (1, x11)) rfl ?_
            rw [← hQ1]
            show zW E (d) 22 70 [(2, 45), (0, a0), (0, r1), (1, x5), (9, 0)] [(1, x11), (2, 45)] m10 Q
            have hP2 : zPop F49 (g0 - 1) x11 ((g0 - 1) - 1) := by first | exact Or.inl (by omega) | exact Or.inr ⟨by omega, qx11, by omega⟩
            refine zw_3 zr_22_70 rfl ?_
            refine zw_5 zr_22_71 rfl ?_
            refine zw_C zr_22_72 (Or.inr rfl) zm_21 rfl rfl ⟨Nat.le_of_ble_eq_true rfl, Nat.le_of_ble_eq_true rfl, Nat.le_of_ble_eq_true rfl, rfl, by decide⟩ (by omega) (th_21 (d := d - 1) (by omega) hIm10 (a0 := x11) (a1 := a0) (a2 := x5)      (by omega) (by omega) (by omega) ) ?_
            rintro _ _ ⟨r13, rfl, hr13a, hr13b, rfl, po0_r13⟩
            show zW E (d) 22 75 [(2, 45), (0, a0), (0, r1), (1, x5), (9, 0)] [(1, r13), (2, 45)] m10 Q
            refine zw_C zr_22_75 (Or.inl rfl) zm_19 rfl rfl ⟨Nat.le_of_ble_eq_true rfl, Nat.le_of_ble_eq_true rfl, Nat.le_of_ble_eq_true rfl, rfl, by decide⟩ (by omega) (P := (fun v m' => zW E (d) 22 78 [(2, 45), (0, a0), (0, r1), (1, x5), (9, 0)] (if v.1 = 9 then [] else v :: []) m' Q)) ?_ (fun _ _ h => h)
            generalize hQ1 : (fun v m' => zW E (d) 22 78 [(2, 45), (0, a0), (0, r1), (1, x5), (9, 0)] (if v.1 = 9 then [] else v :: []) m' Q) = Q1
            show zW E (d - 1) 19 0 [(2, 45), (1, r13), (9, 0)] [] m10 Q1
            refine zw_7 zr_19_0 rfl ?_
            refine zw_46i zr_19_1 km10_45_9 rfl rfl rfl ?_
            refine zw_push zr_19_4 ?_
            refine zw_41_3 zr_19_6 ?_ ?_
            · intro h14; omega
            · intro h15
              refine zw_7 zr_19_9 rfl ?_
              refine zw_46r (s := 49) zr_19_10 rfl rfl rfl rfl ?_
              refine zw_7 zr_19_13 rfl ?_
              refine zw_46i zr_19_14 km10_45_9 rfl rfl rfl ?_
              refine zw_5 zr_19_17 rfl ?_
              refine zw_51 (c := 49) (len := 50) zr_19_18 rfl rfl (by omega) (by omega) ?_
              intro m16 em16
              have hIm16 : zInv m16 := by rw [em16]; exact hIm10.anyl (by omega) (zK3 rfl) rfl (by decide) (by decide)
              have hFm16 : zFr W_22 m0 m16 := by rw [em16]; exact hFm10.any rfl
              have km16_45_9 : m16 45 9 = ((g0 - 1) - 1) := by rw [em16, zUp_ne (by omega)]; exact km10_45_9
              have fm16_46 : m16 46 = F46 := by rw [em16, zUp_fn (by decide)]; exact fm10_46
              have fm16_49 : m16 49 = zPt F49 ((((g0 - 1) - 1)).toNat) r13 := by rw [em16]; exact (zUp_ff (m := m10)).trans (congrArg (fun q => zPt q ((((g0 - 1) - 1)).toNat) r13) fm10_49)
              clear em16
              refine zw_7 zr_19_19 rfl ?_
              refine zw_43 zr_19_20 rfl ?_
              refine zw_46i zr_19_21 km16_45_9 rfl rfl rfl ?_
              refine zw_push zr_19_24 ?_
              refine zw_16 zr_19_25 (by omega) ?_
              refine zw_47 (c := 45) zr_19_26 rfl ⟨rfl, by decide, rfl⟩ ?_
              intro m17 em17
              have hIm17 : zInv m17 := by rw [em17]; exact hIm16.bd (r := 45) (k := 9) (lo := 0) (hi := 50) rfl (by omega) (by decide) (by decide) (by decide)
              have hFm17 : zFr W_22 m0 m17 := by rw [em17]; exact hFm16.up rfl
              have km17_45_9 : m17 45 9 = (((g0 - 1) - 1) + 1) := by rw [em17]; exact zUp_eq _ _ _ _
              have fm17_46 : m17 46 = F46 := by rw [em17, zUp_fn (by decide)]; exact fm16_46
              have fm17_49 : m17 49 = zPt F49 ((((g0 - 1) - 1)).toNat) r13 := by rw [em17, zUp_fn (by decide)]; exact fm16_49
              clear em17
              refine zw_R zr_19_29 (by decide) zm_19 (v := (9, 0)) rfl ?_
              rw [← hQ1]
              show zW E (d) 22 78 [(2, 45), (0, a0), (0, r1), (1, x5), (9, 0)] [] m17 Q
              refine zw_R zr_22_78 (by decide) zm_22 (v := (9, 0)) rfl ?_
              rw [← hQ]; exact ⟨rfl, hIm17, hFm17, by rw [fm17_49, km17_45_9]; first | exact zWo_n po0_r1 qzz rfl (by omega) | exact zWo_b hP1 rfl (by omega) | exact zWo_l hP1 rfl (by omega) | exact zWo_o hP1 hP2 po0_r13 rfl (by omega) | (exfalso; omega), by omega⟩
          · intro h20
            refine zw_push zr_20_7 ?_
            refine zw_R zr_20_8 (by decide) zm_20 (v := (1, 0)) rfl ?_
            rw [← hQ1]
            show zW E (d) 22 70 [(2, 45), (0, a0), (0, r1), (1, x5), (9, 0)] [(1, 0), (2, 45)] m4 Q
            have hP2 : zPop F49 (g0 - 1) 0 (g0 - 1) := by first | exact Or.inl (by omega) | exact Or.inr ⟨by omega, qzz, by omega⟩
            refine zw_3 zr_22_70 rfl ?_
            refine zw_5 zr_22_71 rfl ?_
            refine zw_C zr_22_72 (Or.inr rfl) zm_21 rfl rfl ⟨Nat.le_of_ble_eq_true rfl, Nat.le_of_ble_eq_true rfl, Nat.le_of_ble_eq_true rfl, rfl, by decide⟩ (by omega) (th_21 (d := d - 1) (by omega) hIm4 (a0 := 0) (a1 := a0) (a2 := x5)      (by omega) (by omega) (by omega) ) ?_
            rintro _ _ ⟨r22, rfl, hr22a, hr22b, rfl, po0_r22⟩
            show zW E (d) 22 75 [(2, 45), (0, a0), (0, r1), (1, x5), (9, 0)] [(1, r22), (2, 45)] m4 Q
            refine zw_C zr_22_75 (Or.inl rfl) zm_19 rfl rfl ⟨Nat.le_of_ble_eq_true rfl, Nat.le_of_ble_eq_true rfl, Nat.le_of_ble_eq_true rfl, rfl, by decide⟩ (by omega) (P := (fun v m' => zW E (d) 22 78 [(2, 45), (0, a0), (0, r1), (1, x5), (9, 0)] (if v.1 = 9 then [] else v :: []) m' Q)) ?_ (fun _ _ h => h)
            generalize hQ1 : (fun v m' => zW E (d) 22 78 [(2, 45), (0, a0), (0, r1), (1, x5), (9, 0)] (if v.1 = 9 then [] else v :: []) m' Q) = Q1
            show zW E (d - 1) 19 0 [(2, 45), (1, r22), (9, 0)] [] m4 Q1
            refine zw_7 zr_19_0 rfl ?_
            refine zw_46i zr_19_1 km4_45_9 rfl rfl rfl ?_
            refine zw_push zr_19_4 ?_
            refine zw_41_3 zr_19_6 ?_ ?_
            · intro h23; omega
            · intro h24
              refine zw_7 zr_19_9 rfl ?_
              refine zw_46r (s := 49) zr_19_10 rfl rfl rfl rfl ?_
              refine zw_7 zr_19_13 rfl ?_
              refine zw_46i zr_19_14 km4_45_9 rfl rfl rfl ?_
              refine zw_5 zr_19_17 rfl ?_
              refine zw_51 (c := 49) (len := 50) zr_19_18 rfl rfl (by omega) (by omega) ?_
              intro m25 em25
              have hIm25 : zInv m25 := by rw [em25]; exact hIm4.anyl (by omega) (zK3 rfl) rfl (by decide) (by decide)
              have hFm25 : zFr W_22 m0 m25 := by rw [em25]; exact hFm4.any rfl
              have km25_45_9 : m25 45 9 = (g0 - 1) := by rw [em25, zUp_ne (by omega)]; exact km4_45_9
              have fm25_46 : m25 46 = F46 := by rw [em25, zUp_fn (by decide)]; exact fm4_46
              have fm25_49 : m25 49 = zPt F49 (((g0 - 1)).toNat) r22 := by rw [em25]; exact (zUp_ff (m := m4)).trans (congrArg (fun q => zPt q (((g0 - 1)).toNat) r22) fm4_49)
              clear em25
              refine zw_7 zr_19_19 rfl ?_
              refine zw_43 zr_19_20 rfl ?_
              refine zw_46i zr_19_21 km25_45_9 rfl rfl rfl ?_
              refine zw_push zr_19_24 ?_
              refine zw_16 zr_19_25 (by omega) ?_
              refine zw_47 (c := 45) zr_19_26 rfl ⟨rfl, by decide, rfl⟩ ?_
              intro m26 em26
              have hIm26 : zInv m26 := by rw [em26]; exact hIm25.bd (r := 45) (k := 9) (lo := 0) (hi := 50) rfl (by omega) (by decide) (by decide) (by decide)
              have hFm26 : zFr W_22 m0 m26 := by rw [em26]; exact hFm25.up rfl
              have km26_45_9 : m26 45 9 = ((g0 - 1) + 1) := by rw [em26]; exact zUp_eq _ _ _ _
              have fm26_46 : m26 46 = F46 := by rw [em26, zUp_fn (by decide)]; exact fm25_46
              have fm26_49 : m26 49 = zPt F49 (((g0 - 1)).toNat) r22 := by rw [em26, zUp_fn (by decide)]; exact fm25_49
              clear em26
              refine zw_R zr_19_29 (by decide) zm_19 (v := (9, 0)) rfl ?_
              rw [← hQ1]
              show zW E (d) 22 78 [(2, 45), (0, a0), (0, r1), (1, x5), (9, 0)] [] m26 Q
              refine zw_R zr_22_78 (by decide) zm_22 (v := (9, 0)) rfl ?_
              rw [← hQ]; exact ⟨rfl, hIm26, hFm26, by rw [fm26_49, km26_45_9]; first | exact zWo_n po0_r1 qzz rfl (by omega) | exact zWo_b hP1 rfl (by omega) | exact zWo_l hP1 rfl (by omega) | exact zWo_o hP1 hP2 po0_r22 rfl (by omega) | (exfalso; omega), by omega⟩
        · intro h29
          refine zw_7 zr_22_56 rfl ?_
          refine zw_5 zr_22_57 rfl ?_
          refine zw_117x zr_22_58 ?_
          intro x30 ex30 hx30a hx30b
          refine zw_C zr_22_59 (Or.inl rfl) zm_19 rfl rfl ⟨Nat.le_of_ble_eq_true rfl, Nat.le_of_ble_eq_true rfl, Nat.le_of_ble_eq_true rfl, rfl, by decide⟩ (by omega) (P := (fun v m' => zW E (d) 22 62 [(2, 45), (0, a0), (0, r1), (1, x5), (9, 0)] (if v.1 = 9 then [] else v :: []) m' Q)) ?_ (fun _ _ h => h)
          generalize hQ1 : (fun v m' => zW E (d) 22 62 [(2, 45), (0, a0), (0, r1), (1, x5), (9, 0)] (if v.1 = 9 then [] else v :: []) m' Q) = Q1
          show zW E (d - 1) 19 0 [(2, 45), (1, x30), (9, 0)] [] m4 Q1
          refine zw_7 zr_19_0 rfl ?_
          refine zw_46i zr_19_1 km4_45_9 rfl rfl rfl ?_
          refine zw_push zr_19_4 ?_
          refine zw_41_3 zr_19_6 ?_ ?_
          · intro h31; omega
          · intro h32
            refine zw_7 zr_19_9 rfl ?_
            refine zw_46r (s := 49) zr_19_10 rfl rfl rfl rfl ?_
            refine zw_7 zr_19_13 rfl ?_
            refine zw_46i zr_19_14 km4_45_9 rfl rfl rfl ?_
            refine zw_5 zr_19_17 rfl ?_
            refine zw_51 (c := 49) (len := 50) zr_19_18 rfl rfl (by omega) (by omega) ?_
            intro m33 em33
            have hIm33 : zInv m33 := by rw [em33]; exact hIm4.anyl (by omega) (zK3 rfl) rfl (by decide) (by decide)
            have hFm33 : zFr W_22 m0 m33 := by rw [em33]; exact hFm4.any rfl
            have km33_45_9 : m33 45 9 = (g0 - 1) := by rw [em33, zUp_ne (by omega)]; exact km4_45_9
            have fm33_46 : m33 46 = F46 := by rw [em33, zUp_fn (by decide)]; exact fm4_46
            have fm33_49 : m33 49 = zPt F49 (((g0 - 1)).toNat) x30 := by rw [em33]; exact (zUp_ff (m := m4)).trans (congrArg (fun q => zPt q (((g0 - 1)).toNat) x30) fm4_49)
            clear em33
            refine zw_7 zr_19_19 rfl ?_
            refine zw_43 zr_19_20 rfl ?_
            refine zw_46i zr_19_21 km33_45_9 rfl rfl rfl ?_
            refine zw_push zr_19_24 ?_
            refine zw_16 zr_19_25 (by omega) ?_
            refine zw_47 (c := 45) zr_19_26 rfl ⟨rfl, by decide, rfl⟩ ?_
            intro m34 em34
            have hIm34 : zInv m34 := by rw [em34]; exact hIm33.bd (r := 45) (k := 9) (lo := 0) (hi := 50) rfl (by omega) (by decide) (by decide) (by decide)
            have hFm34 : zFr W_22 m0 m34 := by rw [em34]; exact hFm33.up rfl
            have km34_45_9 : m34 45 9 = ((g0 - 1) + 1) := by rw [em34]; exact zUp_eq _ _ _ _
            have fm34_46 : m34 46 = F46 := by rw [em34, zUp_fn (by decide)]; exact fm33_46
            have fm34_49 : m34 49 = zPt F49 (((g0 - 1)).toNat) x30 := by rw [em34, zUp_fn (by decide)]; exact fm33_49
            clear em34
            refine zw_R zr_19_29 (by decide) zm_19 (v := (9, 0)) rfl ?_
            rw [← hQ1]
            show zW E (d) 22 62 [(2, 45), (0, a0), (0, r1), (1, x5), (9, 0)] [] m34 Q
            refine zw_42 zr_22_62 ?_
            refine zw_R zr_22_78 (by decide) zm_22 (v := (9, 0)) rfl ?_
            rw [← hQ]; exact ⟨rfl, hIm34, hFm34, by rw [fm34_49, km34_45_9]; first | exact zWo_n po0_r1 qzz rfl (by omega) | exact zWo_b hP1 rfl (by omega) | exact zWo_l hP1 rfl (by omega) | exact zWo_o hP1 hP2 zz rfl (by omega) | (exfalso; omega), by omega⟩
      · intro h37
        refine zw_7 zr_22_32 rfl ?_
        refine zw_5 zr_22_33 rfl ?_
        refine zw_push zr_22_34 ?_
        refine zw_39_4 zr_22_35 zr_22_36 ?_ ?_
        · intro h38
          refine zw_push zr_22_43 ?_
          refine zw_C zr_22_44 (Or.inl rfl) zm_19 rfl rfl ⟨Nat.le_of_ble_eq_true rfl, Nat.le_of_ble_eq_true rfl, Nat.le_of_ble_eq_true rfl, rfl, by decide⟩ (by omega) (P := (fun v m' => zW E (d) 22 47 [(2, 45), (0, a0), (0, r1), (1, x5), (9, 0)] (if v.1 = 9 then [] else v :: []) m' Q)) ?_ (fun _ _ h => h)
          generalize hQ1 : (fun v m' => zW E (d) 22 47 [(2, 45), (0, a0), (0, r1), (1, x5), (9, 0)] (if v.1 = 9 then [] else v :: []) m' Q) = Q1
          show zW E (d - 1) 19 0 [(2, 45), (1, 0), (9, 0)] [] m4 Q1
          refine zw_7 zr_19_0 rfl ?_
          refine zw_46i zr_19_1 km4_45_9 rfl rfl rfl ?_
          refine zw_push zr_19_4 ?_
          refine zw_41_3 zr_19_6 ?_ ?_
          · intro h39; omega
          · intro h40
            refine zw_7 zr_19_9 rfl ?_
            refine zw_46r (s := 49) zr_19_10 rfl rfl rfl rfl ?_
            refine zw_7 zr_19_13 rfl ?_
            refine zw_46i zr_19_14 km4_45_9 rfl rfl rfl ?_
            refine zw_5 zr_19_17 rfl ?_
            refine zw_51 (c := 49) (len := 50) zr_19_18 rfl rfl (by omega) (by omega) ?_
            intro m41 em41
            have hIm41 : zInv m41 := by rw [em41]; exact hIm4.anyl (by omega) (zK3 rfl) rfl (by decide) (by decide)
            have hFm41 : zFr W_22 m0 m41 := by rw [em41]; exact hFm4.any rfl
            have km41_45_9 : m41 45 9 = (g0 - 1) := by rw [em41, zUp_ne (by omega)]; exact km4_45_9
            have fm41_46 : m41 46 = F46 := by rw [em41, zUp_fn (by decide)]; exact fm4_46
            have fm41_49 : m41 49 = zPt F49 (((g0 - 1)).toNat) 0 := by rw [em41]; exact (zUp_ff (m := m4)).trans (congrArg (fun q => zPt q (((g0 - 1)).toNat) 0) fm4_49)
            clear em41
            refine zw_7 zr_19_19 rfl ?_
            refine zw_43 zr_19_20 rfl ?_
            refine zw_46i zr_19_21 km41_45_9 rfl rfl rfl ?_
            refine zw_push zr_19_24 ?_
            refine zw_16 zr_19_25 (by omega) ?_
            refine zw_47 (c := 45) zr_19_26 rfl ⟨rfl, by decide, rfl⟩ ?_
            intro m42 em42
            have hIm42 : zInv m42 := by rw [em42]; exact hIm41.bd (r := 45) (k := 9) (lo := 0) (hi := 50) rfl (by omega) (by decide) (by decide) (by decide)
            have hFm42 : zFr W_22 m0 m42 := by rw [em42]; exact hFm41.up rfl
            have km42_45_9 : m42 45 9 = ((g0 - 1) + 1) := by rw [em42]; exact zUp_eq _ _ _ _
            have fm42_46 : m42 46 = F46 := by rw [em42, zUp_fn (by decide)]; exact fm41_46
            have fm42_49 : m42 49 = zPt F49 (((g0 - 1)).toNat) 0 := by rw [em42, zUp_fn (by decide)]; exact fm41_49
            clear em42
            refine zw_R zr_19_29 (by decide) zm_19 (v := (9, 0)) rfl ?_
            rw [← hQ1]
            show zW E (d) 22 47 [(2, 45), (0, a0), (0, r1), (1, x5), (9, 0)] [] m42 Q
            refine zw_42 zr_22_47 ?_
            refine zw_R zr_22_78 (by decide) zm_22 (v := (9, 0)) rfl ?_
            rw [← hQ]; exact ⟨rfl, hIm42, hFm42, by rw [fm42_49, km42_45_9]; first | exact zWo_n po0_r1 qzz rfl (by omega) | exact zWo_b hP1 rfl (by omega) | exact zWo_l hP1 rfl (by omega) | exact zWo_o hP1 hP2 zz rfl (by omega) | (exfalso; omega), by omega⟩
        · intro h45
          refine zw_push zr_22_39 ?_
          refine zw_42 zr_22_40 ?_
          refine zw_C zr_22_44 (Or.inl rfl) zm_19 rfl rfl ⟨Nat.le_of_ble_eq_true rfl, Nat.le_of_ble_eq_true rfl, Nat.le_of_ble_eq_true rfl, rfl, by decide⟩ (by omega) (P := (fun v m' => zW E (d) 22 47 [(2, 45), (0, a0), (0, r1), (1, x5), (9, 0)] (if v.1 = 9 then [] else v :: []) m' Q)) ?_ (fun _ _ h => h)
          generalize hQ1 : (fun v m' => zW E (d) 22 47 [(2, 45), (0, a0), (0, r1), (1, x5), (9, 0)] (if v.1 = 9 then [] else v :: []) m' Q) = Q1
          show zW E (d - 1) 19 0 [(2, 45), (1, 1), (9, 0)] [] m4 Q1
          refine zw_7 zr_19_0 rfl ?_
          refine zw_46i zr_19_1 km4_45_9 rfl rfl rfl ?_
          refine zw_push zr_19_4 ?_
          refine zw_41_3 zr_19_6 ?_ ?_
          · intro h46; omega
          · intro h47
            refine zw_7 zr_19_9 rfl ?_
            refine zw_46r (s := 49) zr_19_10 rfl rfl rfl rfl ?_
            refine zw_7 zr_19_13 rfl ?_
            refine zw_46i zr_19_14 km4_45_9 rfl rfl rfl ?_
            refine zw_5 zr_19_17 rfl ?_
            refine zw_51 (c := 49) (len := 50) zr_19_18 rfl rfl (by omega) (by omega) ?_
            intro m48 em48
            have hIm48 : zInv m48 := by rw [em48]; exact hIm4.anyl (by omega) (zK3 rfl) rfl (by decide) (by decide)
            have hFm48 : zFr W_22 m0 m48 := by rw [em48]; exact hFm4.any rfl
            have km48_45_9 : m48 45 9 = (g0 - 1) := by rw [em48, zUp_ne (by omega)]; exact km4_45_9
            have fm48_46 : m48 46 = F46 := by rw [em48, zUp_fn (by decide)]; exact fm4_46
            have fm48_49 : m48 49 = zPt F49 (((g0 - 1)).toNat) 1 := by rw [em48]; exact (zUp_ff (m := m4)).trans (congrArg (fun q => zPt q (((g0 - 1)).toNat) 1) fm4_49)
            clear em48
            refine zw_7 zr_19_19 rfl ?_
            refine zw_43 zr_19_20 rfl ?_
            refine zw_46i zr_19_21 km48_45_9 rfl rfl rfl ?_
            refine zw_push zr_19_24 ?_
            refine zw_16 zr_19_25 (by omega) ?_
            refine zw_47 (c := 45) zr_19_26 rfl ⟨rfl, by decide, rfl⟩ ?_
            intro m49 em49
            have hIm49 : zInv m49 := by rw [em49]; exact hIm48.bd (r := 45) (k := 9) (lo := 0) (hi := 50) rfl (by omega) (by decide) (by decide) (by decide)
            have hFm49 : zFr W_22 m0 m49 := by rw [em49]; exact hFm48.up rfl
            have km49_45_9 : m49 45 9 = ((g0 - 1) + 1) := by rw [em49]; exact zUp_eq _ _ _ _
            have fm49_46 : m49 46 = F46 := by rw [em49, zUp_fn (by decide)]; exact fm48_46
            have fm49_49 : m49 49 = zPt F49 (((g0 - 1)).toNat) 1 := by rw [em49, zUp_fn (by decide)]; exact fm48_49
            clear em49
            refine zw_R zr_19_29 (by decide) zm_19 (v := (9, 0)) rfl ?_
            rw [← hQ1]
            show zW E (d) 22 47 [(2, 45), (0, a0), (0, r1), (1, x5), (9, 0)] [] m49 Q
            refine zw_42 zr_22_47 ?_
            refine zw_R zr_22_78 (by decide) zm_22 (v := (9, 0)) rfl ?_
            rw [← hQ]; exact ⟨rfl, hIm49, hFm49, by rw [fm49_49, km49_45_9]; first | exact zWo_n po0_r1 qzz rfl (by omega) | exact zWo_b hP1 rfl (by omega) | exact zWo_l hP1 rfl (by omega) | exact zWo_o hP1 hP2 zz rfl (by omega) | (exfalso; omega), by omega⟩
    · intro h52
      refine zw_push zr_20_7 ?_
      refine zw_R zr_20_8 (by decide) zm_20 (v := (1, 0)) rfl ?_
      rw [← hQ1]
      show zW E (d) 22 25 [(2, 45), (0, a0), (0, r1), (9, 0), (9, 0)] [(1, 0)] m0 Q
      have hP1 : zPop F49 g0 0 g0 := by first | exact Or.inl (by omega) | exact Or.inr ⟨by omega, qzz, by omega⟩
      refine zw_13 (L' := [(2, 45), (0, a0), (0, r1), (1, 0), (9, 0)]) zr_22_25 (Nat.le_of_ble_eq_true rfl) rfl ?_
      refine zw_3 zr_22_26 rfl ?_
      refine zw_push zr_22_27 ?_
      refine zw_41_4 zr_22_29 ?_ ?_
      · intro h54
        refine zw_3 zr_22_50 rfl ?_
        refine zw_push zr_22_51 ?_
        refine zw_41_4 zr_22_53 ?_ ?_
        · intro h55
          refine zw_7 zr_22_65 rfl ?_
          refine zw_7 zr_22_66 rfl ?_
          refine zw_C zr_22_67 (Or.inl rfl) zm_20 rfl rfl ⟨Nat.le_of_ble_eq_true rfl, Nat.le_of_ble_eq_true rfl, Nat.le_of_ble_eq_true rfl, rfl, by decide⟩ (by omega) (P := (fun v m' => zW E (d) 22 70 [(2, 45), (0, a0), (0, r1), (1, 0), (9, 0)] (if v.1 = 9 then [(2, 45)] else v :: [(2, 45)]) m' Q)) ?_ (fun _ _ h => h)
          generalize hQ1 : (fun v m' => zW E (d) 22 70 [(2, 45), (0, a0), (0, r1), (1, 0), (9, 0)] (if v.1 = 9 then [(2, 45)] else v :: [(2, 45)]) m' Q) = Q1
          show zW E (d - 1) 20 0 [(2, 45)] [] m0 Q1
          refine zw_7 zr_20_0 rfl ?_
          refine zw_46i zr_20_1 hg0 rfl rfl rfl ?_
          refine zw_40_2 zr_20_4 ?_ ?_
          · intro h56; omega
          · intro h57
            refine zw_push zr_20_7 ?_
            refine zw_R zr_20_8 (by decide) zm_20 (v := (1, 0)) rfl ?_
            rw [← hQ1]
            show zW E (d) 22 70 [(2, 45), (0, a0), (0, r1), (1, 0), (9, 0)] [(1, 0), (2, 45)] m0 Q
            have hP2 : zPop F49 g0 0 g0 := by first | exact Or.inl (by omega) | exact Or.inr ⟨by omega, qzz, by omega⟩
            refine zw_3 zr_22_70 rfl ?_
            refine zw_5 zr_22_71 rfl ?_
            refine zw_C zr_22_72 (Or.inr rfl) zm_21 rfl rfl ⟨Nat.le_of_ble_eq_true rfl, Nat.le_of_ble_eq_true rfl, Nat.le_of_ble_eq_true rfl, rfl, by decide⟩ (by omega) (th_21 (d := d - 1) (by omega) hI0 (a0 := 0) (a1 := a0) (a2 := 0)      (by omega) (by omega) (by omega) ) ?_
            rintro _ _ ⟨r59, rfl, hr59a, hr59b, rfl, po0_r59⟩
            show zW E (d) 22 75 [(2, 45), (0, a0), (0, r1), (1, 0), (9, 0)] [(1, r59), (2, 45)] m0 Q
            refine zw_C zr_22_75 (Or.inl rfl) zm_19 rfl rfl ⟨Nat.le_of_ble_eq_true rfl, Nat.le_of_ble_eq_true rfl, Nat.le_of_ble_eq_true rfl, rfl, by decide⟩ (by omega) (P := (fun v m' => zW E (d) 22 78 [(2, 45), (0, a0), (0, r1), (1, 0), (9, 0)] (if v.1 = 9 then [] else v :: []) m' Q)) ?_ (fun _ _ h => h)
            generalize hQ1 : (fun v m' => zW E (d) 22 78 [(2, 45), (0, a0), (0, r1), (1, 0), (9, 0)] (if v.1 = 9 then [] else v :: []) m' Q) = Q1
            show zW E (d - 1) 19 0 [(2, 45), (1, r59), (9, 0)] [] m0 Q1
            refine zw_7 zr_19_0 rfl ?_
            refine zw_46i zr_19_1 hg0 rfl rfl rfl ?_
            refine zw_push zr_19_4 ?_
            refine zw_41_3 zr_19_6 ?_ ?_
            · intro h60; omega
            · intro h61
              refine zw_7 zr_19_9 rfl ?_
              refine zw_46r (s := 49) zr_19_10 rfl rfl rfl rfl ?_
              refine zw_7 zr_19_13 rfl ?_
              refine zw_46i zr_19_14 hg0 rfl rfl rfl ?_
              refine zw_5 zr_19_17 rfl ?_
              refine zw_51 (c := 49) (len := 50) zr_19_18 rfl rfl (by omega) (by omega) ?_
              intro m62 em62
              have hIm62 : zInv m62 := by rw [em62]; exact hI0.anyl (by omega) (zK3 rfl) rfl (by decide) (by decide)
              have hFm62 : zFr W_22 m0 m62 := by rw [em62]; exact hF0.any rfl
              have km62_45_9 : m62 45 9 = g0 := by rw [em62, zUp_ne (by omega)]; exact hg0
              have fm62_46 : m62 46 = F46 := by rw [em62, zUp_fn (by decide)]; exact hG46
              have fm62_49 : m62 49 = zPt F49 ((g0).toNat) r59 := by rw [em62]; exact (zUp_ff (m := m0)).trans (congrArg (fun q => zPt q ((g0).toNat) r59) hG49)
              clear em62
              refine zw_7 zr_19_19 rfl ?_
              refine zw_43 zr_19_20 rfl ?_
              refine zw_46i zr_19_21 km62_45_9 rfl rfl rfl ?_
              refine zw_push zr_19_24 ?_
              refine zw_16 zr_19_25 (by omega) ?_
              refine zw_47 (c := 45) zr_19_26 rfl ⟨rfl, by decide, rfl⟩ ?_
              intro m63 em63
              have hIm63 : zInv m63 := by rw [em63]; exact hIm62.bd (r := 45) (k := 9) (lo := 0) (hi := 50) rfl (by omega) (by decide) (by decide) (by decide)
              have hFm63 : zFr W_22 m0 m63 := by rw [em63]; exact hFm62.up rfl
              have km63_45_9 : m63 45 9 = (g0 + 1) := by rw [em63]; exact zUp_eq _ _ _ _
              have fm63_46 : m63 46 = F46 := by rw [em63, zUp_fn (by decide)]; exact fm62_46
              have fm63_49 : m63 49 = zPt F49 ((g0).toNat) r59 := by rw [em63, zUp_fn (by decide)]; exact fm62_49
              clear em63
              refine zw_R zr_19_29 (by decide) zm_19 (v := (9, 0)) rfl ?_
              rw [← hQ1]
              show zW E (d) 22 78 [(2, 45), (0, a0), (0, r1), (1, 0), (9, 0)] [] m63 Q
              refine zw_R zr_22_78 (by decide) zm_22 (v := (9, 0)) rfl ?_
              rw [← hQ]; exact ⟨rfl, hIm63, hFm63, by rw [fm63_49, km63_45_9]; first | exact zWo_n po0_r1 qzz rfl (by omega) | exact zWo_b hP1 rfl (by omega) | exact zWo_l hP1 rfl (by omega) | exact zWo_o hP1 hP2 po0_r59 rfl (by omega) | (exfalso; omega), by omega⟩
        · intro h66
          refine zw_7 zr_22_56 rfl ?_
          refine zw_5 zr_22_57 rfl ?_
          refine zw_117x zr_22_58 ?_
          intro x67 ex67 hx67a hx67b
          refine zw_C zr_22_59 (Or.inl rfl) zm_19 rfl rfl ⟨Nat.le_of_ble_eq_true rfl, Nat.le_of_ble_eq_true rfl, Nat.le_of_ble_eq_true rfl, rfl, by decide⟩ (by omega) (P := (fun v m' => zW E (d) 22 62 [(2, 45), (0, a0), (0, r1), (1, 0), (9, 0)] (if v.1 = 9 then [] else v :: []) m' Q)) ?_ (fun _ _ h => h)
          generalize hQ1 : (fun v m' => zW E (d) 22 62 [(2, 45), (0, a0), (0, r1), (1, 0), (9, 0)] (if v.1 = 9 then [] else v :: []) m' Q) = Q1
          show zW E (d - 1) 19 0 [(2, 45), (1, x67), (9, 0)] [] m0 Q1
          refine zw_7 zr_19_0 rfl ?_
          refine zw_46i zr_19_1 hg0 rfl rfl rfl ?_
          refine zw_push zr_19_4 ?_
          refine zw_41_3 zr_19_6 ?_ ?_
          · intro h68; omega
          · intro h69
            refine zw_7 zr_19_9 rfl ?_
            refine zw_46r (s := 49) zr_19_10 rfl rfl rfl rfl ?_
            refine zw_7 zr_19_13 rfl ?_
            refine zw_46i zr_19_14 hg0 rfl rfl rfl ?_
            refine zw_5 zr_19_17 rfl ?_
            refine zw_51 (c := 49) (len := 50) zr_19_18 rfl rfl (by omega) (by omega) ?_
            intro m70 em70
            have hIm70 : zInv m70 := by rw [em70]; exact hI0.anyl (by omega) (zK3 rfl) rfl (by decide) (by decide)
            have hFm70 : zFr W_22 m0 m70 := by rw [em70]; exact hF0.any rfl
            have km70_45_9 : m70 45 9 = g0 := by rw [em70, zUp_ne (by omega)]; exact hg0
            have fm70_46 : m70 46 = F46 := by rw [em70, zUp_fn (by decide)]; exact hG46
            have fm70_49 : m70 49 = zPt F49 ((g0).toNat) x67 := by rw [em70]; exact (zUp_ff (m := m0)).trans (congrArg (fun q => zPt q ((g0).toNat) x67) hG49)
            clear em70
            refine zw_7 zr_19_19 rfl ?_
            refine zw_43 zr_19_20 rfl ?_
            refine zw_46i zr_19_21 km70_45_9 rfl rfl rfl ?_
            refine zw_push zr_19_24 ?_
            refine zw_16 zr_19_25 (by omega) ?_
            refine zw_47 (c := 45) zr_19_26 rfl ⟨rfl, by decide, rfl⟩ ?_
            intro m71 em71
            have hIm71 : zInv m71 := by rw [em71]; exact hIm70.bd (r := 45) (k := 9) (lo := 0) (hi := 50) rfl (by omega) (by decide) (by decide) (by decide)
            have hFm71 : zFr W_22 m0 m71 := by rw [em71]; exact hFm70.up rfl
            have km71_45_9 : m71 45 9 = (g0 + 1) := by rw [em71]; exact zUp_eq _ _ _ _
            have fm71_46 : m71 46 = F46 := by rw [em71, zUp_fn (by decide)]; exact fm70_46
            have fm71_49 : m71 49 = zPt F49 ((g0).toNat) x67 := by rw [em71, zUp_fn (by decide)]; exact fm70_49
            clear em71
            refine zw_R zr_19_29 (by decide) zm_19 (v := (9, 0)) rfl ?_
            rw [← hQ1]
            show zW E (d) 22 62 [(2, 45), (0, a0), (0, r1), (1, 0), (9, 0)] [] m71 Q
            refine zw_42 zr_22_62 ?_
            refine zw_R zr_22_78 (by decide) zm_22 (v := (9, 0)) rfl ?_
            rw [← hQ]; exact ⟨rfl, hIm71, hFm71, by rw [fm71_49, km71_45_9]; first | exact zWo_n po0_r1 qzz rfl (by omega) | exact zWo_b hP1 rfl (by omega) | exact zWo_l hP1 rfl (by omega) | exact zWo_o hP1 hP2 zz rfl (by omega) | (exfalso; omega), by omega⟩
      · intro h74
        refine zw_7 zr_22_32 rfl ?_
        refine zw_5 zr_22_33 rfl ?_
        refine zw_push zr_22_34 ?_
        refine zw_39_4 zr_22_35 zr_22_36 ?_ ?_
        · intro h75; omega
        · intro h76
          refine zw_push zr_22_39 ?_
          refine zw_42 zr_22_40 ?_
          refine zw_C zr_22_44 (Or.inl rfl) zm_19 rfl rfl ⟨Nat.le_of_ble_eq_true rfl, Nat.le_of_ble_eq_true rfl, Nat.le_of_ble_eq_true rfl, rfl, by decide⟩ (by omega) (P := (fun v m' => zW E (d) 22 47 [(2, 45), (0, a0), (0, r1), (1, 0), (9, 0)] (if v.1 = 9 then [] else v :: []) m' Q)) ?_ (fun _ _ h => h)
          generalize hQ1 : (fun v m' => zW E (d) 22 47 [(2, 45), (0, a0), (0, r1), (1, 0), (9, 0)] (if v.1 = 9 then [] else v :: []) m' Q) = Q1
          show zW E (d - 1) 19 0 [(2, 45), (1, 1), (9, 0)] [] m0 Q1
          refine zw_7 zr_19_0 rfl ?_
          refine zw_46i zr_19_1 hg0 rfl rfl rfl ?_
          refine zw_push zr_19_4 ?_
          refine zw_41_3 zr_19_6 ?_ ?_
          · intro h77; omega
          · intro h78
            refine zw_7 zr_19_9 rfl ?_
            refine zw_46r (s := 49) zr_19_10 rfl rfl rfl rfl ?_
            refine zw_7 zr_19_13 rfl ?_
            refine zw_46i zr_19_14 hg0 rfl rfl rfl ?_
            refine zw_5 zr_19_17 rfl ?_
            refine zw_51 (c := 49) (len := 50) zr_19_18 rfl rfl (by omega) (by omega) ?_
            intro m79 em79
            have hIm79 : zInv m79 := by rw [em79]; exact hI0.anyl (by omega) (zK3 rfl) rfl (by decide) (by decide)
            have hFm79 : zFr W_22 m0 m79 := by rw [em79]; exact hF0.any rfl
            have km79_45_9 : m79 45 9 = g0 := by rw [em79, zUp_ne (by omega)]; exact hg0
            have fm79_46 : m79 46 = F46 := by rw [em79, zUp_fn (by decide)]; exact hG46
            have fm79_49 : m79 49 = zPt F49 ((g0).toNat) 1 := by rw [em79]; exact (zUp_ff (m := m0)).trans (congrArg (fun q => zPt q ((g0).toNat) 1) hG49)
            clear em79
            refine zw_7 zr_19_19 rfl ?_
            refine zw_43 zr_19_20 rfl ?_
            refine zw_46i zr_19_21 km79_45_9 rfl rfl rfl ?_
            refine zw_push zr_19_24 ?_
            refine zw_16 zr_19_25 (by omega) ?_
            refine zw_47 (c := 45) zr_19_26 rfl ⟨rfl, by decide, rfl⟩ ?_
            intro m80 em80
            have hIm80 : zInv m80 := by rw [em80]; exact hIm79.bd (r := 45) (k := 9) (lo := 0) (hi := 50) rfl (by omega) (by decide) (by decide) (by decide)
            have hFm80 : zFr W_22 m0 m80 := by rw [em80]; exact hFm79.up rfl
            have km80_45_9 : m80 45 9 = (g0 + 1) := by rw [em80]; exact zUp_eq _ _ _ _
            have fm80_46 : m80 46 = F46 := by rw [em80, zUp_fn (by decide)]; exact fm79_46
            have fm80_49 : m80 49 = zPt F49 ((g0).toNat) 1 := by rw [em80, zUp_fn (by decide)]; exact fm79_49
            clear em80
            refine zw_R zr_19_29 (by decide) zm_19 (v := (9, 0)) rfl ?_
            rw [← hQ1]
            show zW E (d) 22 47 [(2, 45), (0, a0), (0, r1), (1, 0), (9, 0)] [] m80 Q
            refine zw_42 zr_22_47 ?_
            refine zw_R zr_22_78 (by decide) zm_22 (v := (9, 0)) rfl ?_
            rw [← hQ]; exact ⟨rfl, hIm80, hFm80, by rw [fm80_49, km80_45_9]; first | exact zWo_n po0_r1 qzz rfl (by omega) | exact zWo_b hP1 rfl (by omega) | exact zWo_l hP1 rfl (by omega) | exact zWo_o hP1 hP2 zz rfl (by omega) | (exfalso; omega), by omega⟩
  · intro h83
    refine zw_7 zr_22_10 rfl ?_
    refine zw_7 zr_22_11 rfl ?_
    refine zw_46r (s := 46) zr_22_12 rfl rfl rfl rfl ?_
    refine zw_3 zr_22_15 rfl ?_
    refine zw_50 (c := 46) (len := 6) zr_22_16 rfl rfl (by omega) (by omega) ?_
    intro x84 ex84
    have bx84 := hI0.rl (c := 46) (len := 6) (k := (r1).toNat) rfl (by omega)
    rw [← ex84] at bx84
    have qx84 : x84 = F46 (r1).toNat := by rw [← hG46]; exact ex84
    clear ex84
    refine zw_C zr_22_17 (Or.inl rfl) zm_19 rfl rfl ⟨Nat.le_of_ble_eq_true rfl, Nat.le_of_ble_eq_true rfl, Nat.le_of_ble_eq_true rfl, rfl, by decide⟩ (by omega) (P := (fun v m' => zW E (d) 22 20 [(2, 45), (0, a0), (0, r1), (9, 0), (9, 0)] (if v.1 = 9 then [] else v :: []) m' Q)) ?_ (fun _ _ h => h)
    generalize hQ1 : (fun v m' => zW E (d) 22 20 [(2, 45), (0, a0), (0, r1), (9, 0), (9, 0)] (if v.1 = 9 then [] else v :: []) m' Q) = Q1
    show zW E (d - 1) 19 0 [(2, 45), (1, x84), (9, 0)] [] m0 Q1
    refine zw_7 zr_19_0 rfl ?_
    refine zw_46i zr_19_1 hg0 rfl rfl rfl ?_
    refine zw_push zr_19_4 ?_
    refine zw_41_3 zr_19_6 ?_ ?_
    · intro h85
      refine zw_R zr_19_29 (by decide) zm_19 (v := (9, 0)) rfl ?_
      rw [← hQ1]
      show zW E (d) 22 20 [(2, 45), (0, a0), (0, r1), (9, 0), (9, 0)] [] m0 Q
      refine zw_R zr_22_20 (by decide) zm_22 (v := (9, 0)) rfl ?_
      rw [← hQ]; exact ⟨rfl, hI0, hF0, by rw [hG49, hg0]; first | exact zWo_n po0_r1 qx84 rfl (by omega) | exact zWo_b hP1 rfl (by omega) | exact zWo_l hP1 rfl (by omega) | exact zWo_o hP1 hP2 zz rfl (by omega) | (exfalso; omega), by omega⟩
    · intro h88
      refine zw_7 zr_19_9 rfl ?_
      refine zw_46r (s := 49) zr_19_10 rfl rfl rfl rfl ?_
      refine zw_7 zr_19_13 rfl ?_
      refine zw_46i zr_19_14 hg0 rfl rfl rfl ?_
      refine zw_5 zr_19_17 rfl ?_
      refine zw_51 (c := 49) (len := 50) zr_19_18 rfl rfl (by omega) (by omega) ?_
      intro m89 em89
      have hIm89 : zInv m89 := by rw [em89]; exact hI0.anyl (by omega) (zK3 rfl) rfl (by decide) (by decide)
      have hFm89 : zFr W_22 m0 m89 := by rw [em89]; exact hF0.any rfl
      have km89_45_9 : m89 45 9 = g0 := by rw [em89, zUp_ne (by omega)]; exact hg0
      have fm89_46 : m89 46 = F46 := by rw [em89, zUp_fn (by decide)]; exact hG46
      have fm89_49 : m89 49 = zPt F49 ((g0).toNat) x84 := by rw [em89]; exact (zUp_ff (m := m0)).trans (congrArg (fun q => zPt q ((g0).toNat) x84) hG49)
      clear em89
      refine zw_7 zr_19_19 rfl ?_
      refine zw_43 zr_19_20 rfl ?_
      refine zw_46i zr_19_21 km89_45_9 rfl rfl rfl ?_
      refine zw_push zr_19_24 ?_
      refine zw_16 zr_19_25 (by omega) ?_
      refine zw_47 (c := 45) zr_19_26 rfl ⟨rfl, by decide, rfl⟩ ?_
      intro m90 em90
      have hIm90 : zInv m90 := by rw [em90]; exact hIm89.bd (r := 45) (k := 9) (lo := 0) (hi := 50) rfl (by omega) (by decide) (by decide) (by decide)
      have hFm90 : zFr W_22 m0 m90 := by rw [em90]; exact hFm89.up rfl
      have km90_45_9 : m90 45 9 = (g0 + 1) := by rw [em90]; exact zUp_eq _ _ _ _
      have fm90_46 : m90 46 = F46 := by rw [em90, zUp_fn (by decide)]; exact fm89_46
      have fm90_49 : m90 49 = zPt F49 ((g0).toNat) x84 := by rw [em90, zUp_fn (by decide)]; exact fm89_49
      clear em90
      refine zw_R zr_19_29 (by decide) zm_19 (v := (9, 0)) rfl ?_
      rw [← hQ1]
      show zW E (d) 22 20 [(2, 45), (0, a0), (0, r1), (9, 0), (9, 0)] [] m90 Q
      refine zw_R zr_22_20 (by decide) zm_22 (v := (9, 0)) rfl ?_
      rw [← hQ]; exact ⟨rfl, hIm90, hFm90, by rw [fm90_49, km90_45_9]; first | exact zWo_n po0_r1 qx84 rfl (by omega) | exact zWo_b hP1 rfl (by omega) | exact zWo_l hP1 rfl (by omega) | exact zWo_o hP1 hP2 zz rfl (by omega) | (exfalso; omega), by omega⟩

abbrev W_23 : List (Nat × Nat) := [(45, 9), (49, 1000)]
set_option maxHeartbeats 8000000 in
theorem th_23 {E : zE} {d : Nat} {m0 : zM} {g0 : Int} {F46 : Nat → Int} {F48 : Nat → Int} {F49 : Nat → Int} (hd : 3 ≤ d) (hI0 : zInv m0) (hg0 : m0 45 8 = g0) (hG46 : m0 46 = F46) (hG48 : m0 48 = F48) (hG49 : m0 49 = F49) : zC E d 23 [(2, 45)] m0 (fun v m' => ∃ r : Int, v = (1, r) ∧ (-9223372036854775808) ≤ r ∧ r ≤ 9223372036854775807 ∧ zInv m' ∧ zFr W_23 m0 m' ∧ (r = (evl F48 (nmf F46) 0 g0.toNat []).headD 0)) := by
  have hF0 : zFr W_23 m0 m0 := zFr.rfl
  have bg0 := ib_45_8 hI0
  rw [hg0] at bg0
  generalize hQ : (fun (v : zV) (m' : zM) => ∃ r : Int, v = (1, r) ∧ (-9223372036854775808) ≤ r ∧ r ≤ 9223372036854775807 ∧ zInv m' ∧ zFr W_23 m0 m' ∧ (r = (evl F48 (nmf F46) 0 g0.toNat []).headD 0)) = Q
  show zW E d 23 0 [(2, 45), (9, 0)] [] m0 Q
  refine zw_7 zr_23_0 rfl ?_
  refine zw_push zr_23_1 ?_
  refine zw_47 (c := 45) zr_23_2 rfl ⟨rfl, by decide, rfl⟩ ?_
  intro m1 em1
  have hIm1 : zInv m1 := by rw [em1]; exact hI0.bd (r := 45) (k := 9) (lo := 0) (hi := 50) rfl (by omega) (by decide) (by decide) (by decide)
  have hFm1 : zFr W_23 m0 m1 := by rw [em1]; exact hF0.up rfl
  have km1_45_8 : m1 45 8 = g0 := by rw [em1, zUp_ne (by omega)]; exact hg0
  have km1_45_9 : m1 45 9 = 0 := by rw [em1]; exact zUp_eq _ _ _ _
  have fm1_46 : m1 46 = F46 := by rw [em1, zUp_fn (by decide)]; exact hG46
  have fm1_48 : m1 48 = F48 := by rw [em1, zUp_fn (by decide)]; exact hG48
  have fm1_49 : m1 49 = F49 := by rw [em1, zUp_fn (by decide)]; exact hG49
  clear em1
  refine zw_push zr_23_5 ?_
  refine zw_9 (L' := [(2, 45), (0, 0)]) zr_23_6 (Nat.le_of_ble_eq_true rfl) rfl ?_
  have lp7_6 : ∀ (nlp7_6 : Nat) (i2 p4 : Int) (f5 : Nat → Int) (m3 : zM), zInv m3 → zFr W_23 m0 m3 → m3 45 8 = g0 → m3 45 9 = p4 → m3 46 = F46 → m3 48 = F48 → m3 49 = f5 → 0 ≤ i2 → i2 ≤ 50 → 0 ≤ p4 → p4 ≤ 50 → (slv f5 (p4).toNat = evl F48 (nmf F46) 0 (i2).toNat []) → (0 ≤ p4 ∧ p4 ≤ i2 ∧ i2 ≤ g0) → (50 - i2).toNat < nlp7_6 → zW E (d) 23 7 [(2, 45), (0, i2)] [] m3 Q := by
    intro nlp7_6
    induction nlp7_6 with
    | zero =>
      intros
      exact absurd (by assumption : _ < 0) (Nat.not_lt_zero _)
    | succ nlp7_6 ihlp7_6 =>
      intro i2 p4 f5 m3 hIm3 hFm3 km3_45_8 km3_45_9 fm3_46 fm3_48 fm3_49 li2 ui2 lp4 up4 hv0lp7_6 hv1lp7_6 hmlp7_6
      refine zw_3 zr_23_7 rfl ?_
      refine zw_7 zr_23_8 rfl ?_
      refine zw_46i zr_23_9 km3_45_8 rfl rfl rfl ?_
      refine zw_41_3 zr_23_12 ?_ ?_
      · intro h8
        skip
        refine zw_7 zr_23_55 rfl ?_
        refine zw_C zr_23_56 (Or.inl rfl) zm_20 rfl rfl ⟨Nat.le_of_ble_eq_true rfl, Nat.le_of_ble_eq_true rfl, Nat.le_of_ble_eq_true rfl, rfl, by decide⟩ (by omega) (P := (fun v m' => zW E (d) 23 59 [(2, 45), (0, i2)] (if v.1 = 9 then [] else v :: []) m' Q)) ?_ (fun _ _ h => h)
        generalize hQ1 : (fun v m' => zW E (d) 23 59 [(2, 45), (0, i2)] (if v.1 = 9 then [] else v :: []) m' Q) = Q1
        show zW E (d - 1) 20 0 [(2, 45)] [] m3 Q1
        refine zw_7 zr_20_0 rfl ?_
        refine zw_46i zr_20_1 km3_45_9 rfl rfl rfl ?_
        refine zw_40_2 zr_20_4 ?_ ?_
        · intro h9
          refine zw_7 zr_20_9 rfl ?_
          refine zw_43 zr_20_10 rfl ?_
          refine zw_46i zr_20_11 km3_45_9 rfl rfl rfl ?_
          refine zw_push zr_20_14 ?_
          refine zw_17 zr_20_15 (by omega) ?_
          refine zw_47 (c := 45) zr_20_16 rfl ⟨rfl, by decide, rfl⟩ ?_
          intro m10 em10
          have hIm10 : zInv m10 := by rw [em10]; exact hIm3.bd (r := 45) (k := 9) (lo := 0) (hi := 50) rfl (by omega) (by decide) (by decide) (by decide)
          have hFm10 : zFr W_23 m0 m10 := by rw [em10]; exact hFm3.up rfl
          have km10_45_8 : m10 45 8 = g0 := by rw [em10, zUp_ne (by omega)]; exact km3_45_8
          have km10_45_9 : m10 45 9 = (p4 - 1) := by rw [em10]; exact zUp_eq _ _ _ _
          have fm10_46 : m10 46 = F46 := by rw [em10, zUp_fn (by decide)]; exact fm3_46
          have fm10_48 : m10 48 = F48 := by rw [em10, zUp_fn (by decide)]; exact fm3_48
          have fm10_49 : m10 49 = f5 := by rw [em10, zUp_fn (by decide)]; exact fm3_49
          clear em10
          refine zw_7 zr_20_19 rfl ?_
          refine zw_46r (s := 49) zr_20_20 rfl rfl rfl rfl ?_
          refine zw_7 zr_20_23 rfl ?_
          refine zw_46i zr_20_24 km10_45_9 rfl rfl rfl ?_
          refine zw_50 (c := 49) (len := 50) zr_20_27 rfl rfl (by omega) (by omega) ?_
          intro x11 ex11
          have bx11 := hIm10.rl (c := 49) (len := 50) (k := ((p4 - 1)).toNat) rfl (by omega)
          rw [← ex11] at bx11
          have qx11 : x11 = f5 ((p4 - 1)).toNat := by rw [← fm10_49]; exact ex11
          clear ex11
          refine zw_R zr_20_28 (by decide) zm_20 (v := (1, x11)) rfl ?_
          rw [← hQ1]
          show zW E (d) 23 59 [(2, 45), (0, i2)] [(1, x11)] m10 Q
          have hP : zPop f5 p4 x11 (p4 - 1) := by first | exact Or.inl (by omega) | exact Or.inr ⟨by omega, qx11, by omega⟩
          refine zw_R zr_23_59 (by decide) zm_23 (v := (1, x11)) rfl ?_
          rw [← hQ]; exact ⟨_, rfl, by omega, by omega, hIm10, hFm10, by have z := zWr_e hv0lp7_6 hP; rw [show i2 = g0 by omega] at z; exact z⟩
        · intro h14
          refine zw_push zr_20_7 ?_
          refine zw_R zr_20_8 (by decide) zm_20 (v := (1, 0)) rfl ?_
          rw [← hQ1]
          show zW E (d) 23 59 [(2, 45), (0, i2)] [(1, 0)] m3 Q
          have hP : zPop f5 p4 0 p4 := by first | exact Or.inl (by omega) | exact Or.inr ⟨by omega, qzz, by omega⟩
          refine zw_R zr_23_59 (by decide) zm_23 (v := (1, 0)) rfl ?_
          rw [← hQ]; exact ⟨_, rfl, by omega, by omega, hIm3, hFm3, by have z := zWr_e hv0lp7_6 hP; rw [show i2 = g0 by omega] at z; exact z⟩
      · intro h17
        refine zw_7 zr_23_15 rfl ?_
        refine zw_46r (s := 48) zr_23_16 rfl rfl rfl rfl ?_
        refine zw_3 zr_23_19 rfl ?_
        refine zw_48 (c := 48) (len := 50) zr_23_20 rfl rfl (by omega) (by omega) ?_
        intro x18 ex18
        have bx18 := ib_48 hIm3 (k := (i2).toNat) (by omega)
        rw [← ex18] at bx18
        have qx18 : x18 = F48 (i2).toNat := by rw [← fm3_48]; exact ex18
        refine zw_40_0 zr_23_21 ?_ ?_
        · intro h19
          refine zw_7 zr_23_38 rfl ?_
          refine zw_7 zr_23_39 rfl ?_
          refine zw_46r (s := 48) zr_23_40 rfl rfl rfl rfl ?_
          refine zw_3 zr_23_43 rfl ?_
          refine zw_48k (c := 48) (len := 50) zr_23_44 rfl rfl (by omega) (by omega) rfl ex18.symm ?_
          refine zw_38 zr_23_45 (by omega) ?_
          refine zw_C zr_23_46 (Or.inl rfl) zm_22 rfl rfl ⟨Nat.le_of_ble_eq_true rfl, Nat.le_of_ble_eq_true rfl, Nat.le_of_ble_eq_true rfl, rfl, by decide⟩ (by omega) (th_22 (d := d - 1) (by omega) hIm3 (a0 := (-x18)) (g0 := p4)  (F46 := F46) (F49 := f5) km3_45_9 fm3_46 fm3_49 (by omega) (by omega) (by omega)) ?_
          rintro _ m20 ⟨rfl, hIm20, gm20, po0_m20, po1_m20⟩
          have hFm20 : zFr W_23 m0 m20 := hFm3.trans gm20 rfl
          have km20_45_8 : m20 45 8 = g0 := (gm20 45 8 rfl).trans km3_45_8
          have fm20_46 : m20 46 = F46 := (funext fun k => gm20 46 k rfl).trans fm3_46
          have fm20_48 : m20 48 = F48 := (funext fun k => gm20 48 k rfl).trans fm3_48
          obtain ⟨f21, fm20_49⟩ : ∃ f, m20 49 = f := ⟨_, rfl⟩
          try rw [fm20_49] at po0_m20
          obtain ⟨f22, ef22⟩ : ∃ v, m20 45 9 = v := ⟨_, rfl⟩
          have bf22 := ib_45_9 hIm20
          rw [ef22] at bf22
          rw [ef22] at po0_m20
          rw [ef22] at po1_m20
          show zW E (d) 23 49 [(2, 45), (0, i2)] [] m20 Q
          refine zw_15 (c := 1) (L' := [(2, 45), (0, (i2 + 1))]) zr_23_49 rfl (by decide) (by omega) rfl ?_
          refine zw_42 zr_23_52 ?_
          exact zw_less (L := [(2, 45), (0, (i2 + 1))]) ⟨Or.inr rfl, Or.inr rfl, trivial⟩ (ihlp7_6 ((i2 + 1)) (f22) (f21) m20 hIm20 hFm20  km20_45_8 ef22 fm20_46 fm20_48 fm20_49 (by omega) (by omega) (by omega) (by omega) (by first | exact zWr_s hv0lp7_6 qx18 (zWo_v rfl (by omega)) (by omega) | exact zWr_s hv0lp7_6 qx18 po0_m20 (by omega) | (exfalso; omega)) (by omega) (by omega))
        · intro h24
          refine zw_7 zr_23_24 rfl ?_
          refine zw_7 zr_23_25 rfl ?_
          refine zw_46r (s := 48) zr_23_26 rfl rfl rfl rfl ?_
          refine zw_3 zr_23_29 rfl ?_
          refine zw_48k (c := 48) (len := 50) zr_23_30 rfl rfl (by omega) (by omega) rfl ex18.symm ?_
          refine zw_36 zr_23_31 ?_
          refine zw_C zr_23_32 (Or.inl rfl) zm_19 rfl rfl ⟨Nat.le_of_ble_eq_true rfl, Nat.le_of_ble_eq_true rfl, Nat.le_of_ble_eq_true rfl, rfl, by decide⟩ (by omega) (P := (fun v m' => zW E (d) 23 35 [(2, 45), (0, i2)] (if v.1 = 9 then [] else v :: []) m' Q)) ?_ (fun _ _ h => h)
          generalize hQ1 : (fun v m' => zW E (d) 23 35 [(2, 45), (0, i2)] (if v.1 = 9 then [] else v :: []) m' Q) = Q1
          show zW E (d - 1) 19 0 [(2, 45), (1, x18), (9, 0)] [] m3 Q1
          refine zw_7 zr_19_0 rfl ?_
          refine zw_46i zr_19_1 km3_45_9 rfl rfl rfl ?_
          refine zw_push zr_19_4 ?_
          refine zw_41_3 zr_19_6 ?_ ?_
          · intro h25
            refine zw_R zr_19_29 (by decide) zm_19 (v := (9, 0)) rfl ?_
            rw [← hQ1]
            show zW E (d) 23 35 [(2, 45), (0, i2)] [] m3 Q
            refine zw_42 zr_23_35 ?_
            refine zw_15 (c := 1) (L' := [(2, 45), (0, (i2 + 1))]) zr_23_49 rfl (by decide) (by omega) rfl ?_
            refine zw_42 zr_23_52 ?_
            exact zw_less (L := [(2, 45), (0, (i2 + 1))]) ⟨Or.inr rfl, Or.inr rfl, trivial⟩ (ihlp7_6 ((i2 + 1)) (p4) (f5) m3 hIm3 hFm3  km3_45_8 km3_45_9 fm3_46 fm3_48 fm3_49 (by omega) (by omega) (by omega) (by omega) (by first | exact zWr_s hv0lp7_6 qx18 (zWo_v rfl (by omega)) (by omega) | exact zWr_s hv0lp7_6 qx18 zz (by omega) | (exfalso; omega)) (by omega) (by omega))
          · intro h27
            refine zw_7 zr_19_9 rfl ?_
            refine zw_46r (s := 49) zr_19_10 rfl rfl rfl rfl ?_
            refine zw_7 zr_19_13 rfl ?_
            refine zw_46i zr_19_14 km3_45_9 rfl rfl rfl ?_
            refine zw_5 zr_19_17 rfl ?_
            refine zw_51 (c := 49) (len := 50) zr_19_18 rfl rfl (by omega) (by omega) ?_
            intro m28 em28
            have hIm28 : zInv m28 := by rw [em28]; exact hIm3.anyl (by omega) (zK3 rfl) rfl (by decide) (by decide)
            have hFm28 : zFr W_23 m0 m28 := by rw [em28]; exact hFm3.any rfl
            have km28_45_8 : m28 45 8 = g0 := by rw [em28, zUp_ne (by omega)]; exact km3_45_8
            have km28_45_9 : m28 45 9 = p4 := by rw [em28, zUp_ne (by omega)]; exact km3_45_9
            have fm28_46 : m28 46 = F46 := by rw [em28, zUp_fn (by decide)]; exact fm3_46
            have fm28_48 : m28 48 = F48 := by rw [em28, zUp_fn (by decide)]; exact fm3_48
            have fm28_49 : m28 49 = zPt f5 ((p4).toNat) x18 := by rw [em28]; exact (zUp_ff (m := m3)).trans (congrArg (fun q => zPt q ((p4).toNat) x18) fm3_49)
            clear em28
            refine zw_7 zr_19_19 rfl ?_
            refine zw_43 zr_19_20 rfl ?_
            refine zw_46i zr_19_21 km28_45_9 rfl rfl rfl ?_
            refine zw_push zr_19_24 ?_
            refine zw_16 zr_19_25 (by omega) ?_
            refine zw_47 (c := 45) zr_19_26 rfl ⟨rfl, by decide, rfl⟩ ?_
            intro m29 em29
            have hIm29 : zInv m29 := by rw [em29]; exact hIm28.bd (r := 45) (k := 9) (lo := 0) (hi := 50) rfl (by omega) (by decide) (by decide) (by decide)
            have hFm29 : zFr W_23 m0 m29 := by rw [em29]; exact hFm28.up rfl
            have km29_45_8 : m29 45 8 = g0 := by rw [em29, zUp_ne (by omega)]; exact km28_45_8
            have km29_45_9 : m29 45 9 = (p4 + 1) := by rw [em29]; exact zUp_eq _ _ _ _
            have fm29_46 : m29 46 = F46 := by rw [em29, zUp_fn (by decide)]; exact fm28_46
            have fm29_48 : m29 48 = F48 := by rw [em29, zUp_fn (by decide)]; exact fm28_48
            have fm29_49 : m29 49 = zPt f5 ((p4).toNat) x18 := by rw [em29, zUp_fn (by decide)]; exact fm28_49
            clear em29
            refine zw_R zr_19_29 (by decide) zm_19 (v := (9, 0)) rfl ?_
            rw [← hQ1]
            show zW E (d) 23 35 [(2, 45), (0, i2)] [] m29 Q
            refine zw_42 zr_23_35 ?_
            refine zw_15 (c := 1) (L' := [(2, 45), (0, (i2 + 1))]) zr_23_49 rfl (by decide) (by omega) rfl ?_
            refine zw_42 zr_23_52 ?_
            exact zw_less (L := [(2, 45), (0, (i2 + 1))]) ⟨Or.inr rfl, Or.inr rfl, trivial⟩ (ihlp7_6 ((i2 + 1)) ((p4 + 1)) (zPt f5 ((p4).toNat) x18) m29 hIm29 hFm29  km29_45_8 km29_45_9 fm29_46 fm29_48 fm29_49 (by omega) (by omega) (by omega) (by omega) (by first | exact zWr_s hv0lp7_6 qx18 (zWo_v rfl (by omega)) (by omega) | exact zWr_s hv0lp7_6 qx18 zz (by omega) | (exfalso; omega)) (by omega) (by omega))
  exact lp7_6 _ (0) (0) (F49) m1 hIm1 hFm1  km1_45_8 km1_45_9 fm1_46 fm1_48 fm1_49 (by omega) (by omega) (by omega) (by omega) (by rfl) (by omega) (Nat.lt_succ_self _)

abbrev W_24 : List (Nat × Nat) := [(45, 9), (46, 1000), (49, 1000)]
set_option maxHeartbeats 8000000 in
theorem th_24 {E : zE} {d : Nat} {m0 : zM} {a0 : Int} {a1 : Int} {a2 : Int} {a3 : Int} {g0 : Int} {g1 : Int} {g2 : Int} {gS : Int} {F5 : Nat → Int} {F10 : Nat → Int} {F11 : Nat → Int} {F44 : Nat → Int} {F46 : Nat → Int} {F48 : Nat → Int} {F50 : Nat → Int} {F51 : Nat → Int} (hd : 4 ≤ d) (hI0 : zInv m0) (hg0 : m0 45 1 = g0) (hg1 : m0 45 8 = g1) (hg2 : m0 1 2 = g2) (hG5 : m0 5 = F5) (hG10 : m0 10 = F10) (hG11 : m0 11 = F11) (hG44 : m0 44 = F44) (hG46 : m0 46 = F46) (hG48 : m0 48 = F48) (hG50 : m0 50 = F50) (hG51 : m0 51 = F51) (ha0 : 0 ≤ a0 ∧ a0 ≤ 59) (ha1 : 0 ≤ a1 ∧ a1 ≤ 9) (ha2 : 0 ≤ a2 ∧ a2 ≤ 9) (ha3 : 0 ≤ a3 ∧ a3 ≤ 2) (hp0 : zPc (chc F11 F10 gS) F48 g1 g0) : zC E d 24 [(2, 43), (0, a0), (0, a1), (0, a2), (0, a3)] m0 (fun v m' => ∃ r : Int, v = (0, r) ∧ (-500) ≤ r ∧ r ≤ 500 ∧ zInv m' ∧ zFr W_24 m0 m' ∧ (r = chg (chc F11 F10 gS) F5 (zbt g2) (F44, F50, F51) a0.toNat a1 a2 a3) ∧ (-500 ≤ r ∧ r ≤ 500)) := by
  have hF0 : zFr W_24 m0 m0 := zFr.rfl
  have bg0 := hI0.fi (c := 45) (k := 1) rfl
  rw [hg0] at bg0
  have bg1 := ib_45_8 hI0
  rw [hg1] at bg1
  have bg2 := ib_1_2 hI0
  rw [hg2] at bg2
  generalize hQ : (fun (v : zV) (m' : zM) => ∃ r : Int, v = (0, r) ∧ (-500) ≤ r ∧ r ≤ 500 ∧ zInv m' ∧ zFr W_24 m0 m' ∧ (r = chg (chc F11 F10 gS) F5 (zbt g2) (F44, F50, F51) a0.toNat a1 a2 a3) ∧ (-500 ≤ r ∧ r ≤ 500)) = Q
  show zW E d 24 0 [(2, 43), (0, a0), (0, a1), (0, a2), (0, a3), (9, 0)] [] m0 Q
  refine zw_7 zr_24_0 rfl ?_
  refine zw_C zr_24_1 (Or.inl rfl) zm_17 rfl rfl ⟨Nat.le_of_ble_eq_true rfl, Nat.le_of_ble_eq_true rfl, Nat.le_of_ble_eq_true rfl, rfl, by decide⟩ (by omega) (P := (fun v m' => zW E (d) 24 4 [(2, 43), (0, a0), (0, a1), (0, a2), (0, a3), (9, 0)] (if v.1 = 9 then [] else v :: []) m' Q)) ?_ (fun _ _ h => h)
  generalize hQ1 : (fun v m' => zW E (d) 24 4 [(2, 43), (0, a0), (0, a1), (0, a2), (0, a3), (9, 0)] (if v.1 = 9 then [] else v :: []) m' Q) = Q1
  show zW E (d - 1) 17 0 [(2, 43)] [] m0 Q1
  refine zw_7 zr_17_0 rfl ?_
  refine zw_46r (s := 45) zr_17_1 rfl rfl rfl rfl ?_
  refine zw_46i zr_17_4 hg0 rfl rfl rfl ?_
  refine zw_push zr_17_7 ?_
  refine zw_41_1 zr_17_8 ?_ ?_
  · intro h1
    refine zw_push zr_17_15 ?_
    refine zw_R zr_17_16 (by decide) zm_17 (v := (0, 0)) (zRetB (by omega)) ?_
    rw [← hQ1]
    show zW E (d) 24 4 [(2, 43), (0, a0), (0, a1), (0, a2), (0, a3), (9, 0)] [(0, 0)] m0 Q
    refine zw_40_1 zr_24_4 ?_ ?_
    · intro h2
      refine zw_7 zr_24_9 rfl ?_
      refine zw_46r (s := 45) zr_24_10 rfl rfl rfl rfl ?_
      refine zw_46r (s := 46) zr_24_13 rfl rfl rfl rfl ?_
      refine zw_12 (L' := [(2, 43), (0, a0), (0, a1), (0, a2), (0, a3), (2, 46)]) zr_24_16 (Nat.le_of_ble_eq_true rfl) rfl ?_
      refine zw_8 zr_24_18 rfl ?_
      refine zw_push zr_24_20 ?_
      refine zw_7 zr_24_21 rfl ?_
      refine zw_46r (s := 44) zr_24_22 rfl rfl rfl rfl ?_
      refine zw_3 zr_24_25 rfl ?_
      refine zw_48 (c := 44) (len := 10) zr_24_26 rfl rfl (by omega) (by omega) ?_
      intro x3 ex3
      have bx3 := hI0.ra (c := 44) (len := 10) (k := (a1).toNat) rfl (by omega)
      rw [← ex3] at bx3
      have qx3 : x3 = F44 (a1).toNat := by rw [← hG44]; exact ex3
      clear ex3
      have ha := qx3
      refine zw_36 zr_24_27 ?_
      refine zw_51 (c := 46) (len := 6) zr_24_28 rfl rfl (by omega) (by omega) ?_
      intro m5 em5
      have hIm5 : zInv m5 := by rw [em5]; exact hI0.anyl (by omega) (zK3 rfl) rfl (by decide) (by decide)
      have hFm5 : zFr W_24 m0 m5 := by rw [em5]; exact hF0.any rfl
      have km5_45_1 : m5 45 1 = g0 := by rw [em5, zUp_ne (by omega)]; exact hg0
      have km5_45_8 : m5 45 8 = g1 := by rw [em5, zUp_ne (by omega)]; exact hg1
      have km5_1_2 : m5 1 2 = g2 := by rw [em5, zUp_ne (by omega)]; exact hg2
      have fm5_5 : m5 5 = F5 := by rw [em5, zUp_fn (by decide)]; exact hG5
      have fm5_10 : m5 10 = F10 := by rw [em5, zUp_fn (by decide)]; exact hG10
      have fm5_11 : m5 11 = F11 := by rw [em5, zUp_fn (by decide)]; exact hG11
      have fm5_44 : m5 44 = F44 := by rw [em5, zUp_fn (by decide)]; exact hG44
      have fm5_46 : m5 46 = zPt F46 0 x3 := by rw [em5]; exact (zUp_ff (m := m0)).trans (congrArg (fun q => zPt q 0 x3) hG46)
      have fm5_48 : m5 48 = F48 := by rw [em5, zUp_fn (by decide)]; exact hG48
      have fm5_50 : m5 50 = F50 := by rw [em5, zUp_fn (by decide)]; exact hG50
      have fm5_51 : m5 51 = F51 := by rw [em5, zUp_fn (by decide)]; exact hG51
      clear em5
      refine zw_8 zr_24_29 rfl ?_
      refine zw_push zr_24_31 ?_
      refine zw_7 zr_24_32 rfl ?_
      refine zw_46r (s := 44) zr_24_33 rfl rfl rfl rfl ?_
      refine zw_3 zr_24_36 rfl ?_
      refine zw_48 (c := 44) (len := 10) zr_24_37 rfl rfl (by omega) (by omega) ?_
      intro x6 ex6
      have bx6 := hIm5.ra (c := 44) (len := 10) (k := (a2).toNat) rfl (by omega)
      rw [← ex6] at bx6
      have qx6 : x6 = F44 (a2).toNat := by rw [← fm5_44]; exact ex6
      clear ex6
      have hb := qx6
      refine zw_36 zr_24_38 ?_
      refine zw_51 (c := 46) (len := 6) zr_24_39 rfl rfl (by omega) (by omega) ?_
      intro m8 em8
      have hIm8 : zInv m8 := by rw [em8]; exact hIm5.anyl (by omega) (zK3 rfl) rfl (by decide) (by decide)
      have hFm8 : zFr W_24 m0 m8 := by rw [em8]; exact hFm5.any rfl
      have km8_45_1 : m8 45 1 = g0 := by rw [em8, zUp_ne (by omega)]; exact km5_45_1
      have km8_45_8 : m8 45 8 = g1 := by rw [em8, zUp_ne (by omega)]; exact km5_45_8
      have km8_1_2 : m8 1 2 = g2 := by rw [em8, zUp_ne (by omega)]; exact km5_1_2
      have fm8_5 : m8 5 = F5 := by rw [em8, zUp_fn (by decide)]; exact fm5_5
      have fm8_10 : m8 10 = F10 := by rw [em8, zUp_fn (by decide)]; exact fm5_10
      have fm8_11 : m8 11 = F11 := by rw [em8, zUp_fn (by decide)]; exact fm5_11
      have fm8_44 : m8 44 = F44 := by rw [em8, zUp_fn (by decide)]; exact fm5_44
      have fm8_46 : m8 46 = zPt (zPt F46 0 x3) 1 x6 := by rw [em8]; exact (zUp_ff (m := m5)).trans (congrArg (fun q => zPt q 1 x6) fm5_46)
      have fm8_48 : m8 48 = F48 := by rw [em8, zUp_fn (by decide)]; exact fm5_48
      have fm8_50 : m8 50 = F50 := by rw [em8, zUp_fn (by decide)]; exact fm5_50
      have fm8_51 : m8 51 = F51 := by rw [em8, zUp_fn (by decide)]; exact fm5_51
      clear em8
      refine zw_8 zr_24_40 rfl ?_
      refine zw_push zr_24_42 ?_
      refine zw_4 zr_24_43 rfl ?_
      refine zw_36 zr_24_45 ?_
      refine zw_51 (c := 46) (len := 6) zr_24_46 rfl rfl (by omega) (by omega) ?_
      intro m9 em9
      have hIm9 : zInv m9 := by rw [em9]; exact hIm8.anyl (by omega) (zK3 rfl) rfl (by decide) (by decide)
      have hFm9 : zFr W_24 m0 m9 := by rw [em9]; exact hFm8.any rfl
      have km9_45_1 : m9 45 1 = g0 := by rw [em9, zUp_ne (by omega)]; exact km8_45_1
      have km9_45_8 : m9 45 8 = g1 := by rw [em9, zUp_ne (by omega)]; exact km8_45_8
      have km9_1_2 : m9 1 2 = g2 := by rw [em9, zUp_ne (by omega)]; exact km8_1_2
      have fm9_5 : m9 5 = F5 := by rw [em9, zUp_fn (by decide)]; exact fm8_5
      have fm9_10 : m9 10 = F10 := by rw [em9, zUp_fn (by decide)]; exact fm8_10
      have fm9_11 : m9 11 = F11 := by rw [em9, zUp_fn (by decide)]; exact fm8_11
      have fm9_44 : m9 44 = F44 := by rw [em9, zUp_fn (by decide)]; exact fm8_44
      have fm9_46 : m9 46 = zPt (zPt (zPt F46 0 x3) 1 x6) 2 a3 := by rw [em9]; exact (zUp_ff (m := m8)).trans (congrArg (fun q => zPt q 2 a3) fm8_46)
      have fm9_48 : m9 48 = F48 := by rw [em9, zUp_fn (by decide)]; exact fm8_48
      have fm9_50 : m9 50 = F50 := by rw [em9, zUp_fn (by decide)]; exact fm8_50
      have fm9_51 : m9 51 = F51 := by rw [em9, zUp_fn (by decide)]; exact fm8_51
      clear em9
      refine zw_8 zr_24_47 rfl ?_
      refine zw_push zr_24_49 ?_
      refine zw_7 zr_24_50 rfl ?_
      refine zw_46r (s := 50) zr_24_51 rfl rfl rfl rfl ?_
      refine zw_3 zr_24_54 rfl ?_
      refine zw_48 (c := 50) (len := 10) zr_24_55 rfl rfl (by omega) (by omega) ?_
      intro x10 ex10
      have bx10 := hIm9.ra (c := 50) (len := 10) (k := (a1).toNat) rfl (by omega)
      rw [← ex10] at bx10
      have qx10 : x10 = F50 (a1).toNat := by rw [← fm9_50]; exact ex10
      clear ex10
      have hm := qx10
      refine zw_36 zr_24_56 ?_
      refine zw_51 (c := 46) (len := 6) zr_24_57 rfl rfl (by omega) (by omega) ?_
      intro m12 em12
      have hIm12 : zInv m12 := by rw [em12]; exact hIm9.anyl (by omega) (zK3 rfl) rfl (by decide) (by decide)
      have hFm12 : zFr W_24 m0 m12 := by rw [em12]; exact hFm9.any rfl
      have km12_45_1 : m12 45 1 = g0 := by rw [em12, zUp_ne (by omega)]; exact km9_45_1
      have km12_45_8 : m12 45 8 = g1 := by rw [em12, zUp_ne (by omega)]; exact km9_45_8
      have km12_1_2 : m12 1 2 = g2 := by rw [em12, zUp_ne (by omega)]; exact km9_1_2
      have fm12_5 : m12 5 = F5 := by rw [em12, zUp_fn (by decide)]; exact fm9_5
      have fm12_10 : m12 10 = F10 := by rw [em12, zUp_fn (by decide)]; exact fm9_10
      have fm12_11 : m12 11 = F11 := by rw [em12, zUp_fn (by decide)]; exact fm9_11
      have fm12_44 : m12 44 = F44 := by rw [em12, zUp_fn (by decide)]; exact fm9_44
      have fm12_46 : m12 46 = zPt (zPt (zPt (zPt F46 0 x3) 1 x6) 2 a3) 3 x10 := by rw [em12]; exact (zUp_ff (m := m9)).trans (congrArg (fun q => zPt q 3 x10) fm9_46)
      have fm12_48 : m12 48 = F48 := by rw [em12, zUp_fn (by decide)]; exact fm9_48
      have fm12_50 : m12 50 = F50 := by rw [em12, zUp_fn (by decide)]; exact fm9_50
      have fm12_51 : m12 51 = F51 := by rw [em12, zUp_fn (by decide)]; exact fm9_51
      clear em12
      refine zw_8 zr_24_58 rfl ?_
      refine zw_push zr_24_60 ?_
      refine zw_7 zr_24_61 rfl ?_
      refine zw_46r (s := 50) zr_24_62 rfl rfl rfl rfl ?_
      refine zw_3 zr_24_65 rfl ?_
      refine zw_48 (c := 50) (len := 10) zr_24_66 rfl rfl (by omega) (by omega) ?_
      intro x13 ex13
      have bx13 := hIm12.ra (c := 50) (len := 10) (k := (a1).toNat) rfl (by omega)
      rw [← ex13] at bx13
      have qx13 : x13 = F50 (a1).toNat := by rw [← fm12_50]; exact ex13
      clear ex13
      refine zw_40_5 zr_24_67 ?_ ?_
      · intro h14
        refine zw_push zr_24_90 ?_
        refine zw_51 (c := 46) (len := 6) zr_24_91 rfl rfl (by omega) (by omega) ?_
        intro m15 em15
        have hIm15 : zInv m15 := by rw [em15]; exact hIm12.anyl (by omega) (zK3 rfl) rfl (by decide) (by decide)
        have hFm15 : zFr W_24 m0 m15 := by rw [em15]; exact hFm12.any rfl
        have km15_45_1 : m15 45 1 = g0 := by rw [em15, zUp_ne (by omega)]; exact km12_45_1
        have km15_45_8 : m15 45 8 = g1 := by rw [em15, zUp_ne (by omega)]; exact km12_45_8
        have km15_1_2 : m15 1 2 = g2 := by rw [em15, zUp_ne (by omega)]; exact km12_1_2
        have fm15_5 : m15 5 = F5 := by rw [em15, zUp_fn (by decide)]; exact fm12_5
        have fm15_10 : m15 10 = F10 := by rw [em15, zUp_fn (by decide)]; exact fm12_10
        have fm15_11 : m15 11 = F11 := by rw [em15, zUp_fn (by decide)]; exact fm12_11
        have fm15_44 : m15 44 = F44 := by rw [em15, zUp_fn (by decide)]; exact fm12_44
        have fm15_46 : m15 46 = zPt (zPt (zPt (zPt (zPt F46 0 x3) 1 x6) 2 a3) 3 x10) 4 0 := by rw [em15]; exact (zUp_ff (m := m12)).trans (congrArg (fun q => zPt q 4 0) fm12_46)
        have fm15_48 : m15 48 = F48 := by rw [em15, zUp_fn (by decide)]; exact fm12_48
        have fm15_50 : m15 50 = F50 := by rw [em15, zUp_fn (by decide)]; exact fm12_50
        have fm15_51 : m15 51 = F51 := by rw [em15, zUp_fn (by decide)]; exact fm12_51
        clear em15
        refine zw_8 zr_24_92 rfl ?_
        refine zw_push zr_24_94 ?_
        refine zw_7 zr_24_95 rfl ?_
        refine zw_46r (s := 1) zr_24_96 rfl rfl rfl rfl ?_
        refine zw_3 zr_24_99 rfl ?_
        refine zw_C zr_24_100 (Or.inl rfl) zm_18 rfl rfl ⟨Nat.le_of_ble_eq_true rfl, Nat.le_of_ble_eq_true rfl, Nat.le_of_ble_eq_true rfl, rfl, by decide⟩ (by omega) (P := (fun v m' => zW E (d) 24 103 [(2, 43), (0, a0), (0, a1), (0, a2), (0, a3), (2, 46)] (if v.1 = 9 then [(0, 5), (2, 46)] else v :: [(0, 5), (2, 46)]) m' Q)) ?_ (fun _ _ h => h)
        generalize hQ1 : (fun v m' => zW E (d) 24 103 [(2, 43), (0, a0), (0, a1), (0, a2), (0, a3), (2, 46)] (if v.1 = 9 then [(0, 5), (2, 46)] else v :: [(0, 5), (2, 46)]) m' Q) = Q1
        show zW E (d - 1) 18 0 [(2, 1), (0, a0)] [] m15 Q1
        refine zw_7 zr_18_0 rfl ?_
        refine zw_46l zr_18_1 km15_1_2 rfl rfl rfl ?_
        refine zw_3 zr_18_4 rfl ?_
        refine zw_34p zr_18_5 (by omega) (by omega) ?_
        intro x16 hx16c hx16a hx16b
        refine zw_push zr_18_6 ?_
        refine zw_30o zr_18_7 (by omega) ?_
        refine zw_push zr_18_8 ?_
        refine zw_39_1 zr_18_9 zr_18_10 ?_ ?_
        · intro h17
          refine zw_push zr_18_17 ?_
          refine zw_R zr_18_18 (by decide) zm_18 (v := (0, 0)) (zRetB (by omega)) ?_
          rw [← hQ1]
          show zW E (d) 24 103 [(2, 43), (0, a0), (0, a1), (0, a2), (0, a3), (2, 46)] [(0, 0), (0, 5), (2, 46)] m15 Q
          refine zw_40_1 zr_24_103 ?_ ?_
          · intro h18
            refine zw_push zr_24_110 ?_
            have hv : 0 = zbt g2 a0.toNat := by have := zbt_01 g2 a0.toNat; omega
            refine zw_51 (c := 46) (len := 6) zr_24_111 rfl rfl (by omega) (by omega) ?_
            intro m20 em20
            have hIm20 : zInv m20 := by rw [em20]; exact hIm15.anyl (by omega) (zK3 rfl) rfl (by decide) (by decide)
            have hFm20 : zFr W_24 m0 m20 := by rw [em20]; exact hFm15.any rfl
            have km20_45_1 : m20 45 1 = g0 := by rw [em20, zUp_ne (by omega)]; exact km15_45_1
            have km20_45_8 : m20 45 8 = g1 := by rw [em20, zUp_ne (by omega)]; exact km15_45_8
            have km20_1_2 : m20 1 2 = g2 := by rw [em20, zUp_ne (by omega)]; exact km15_1_2
            have fm20_5 : m20 5 = F5 := by rw [em20, zUp_fn (by decide)]; exact fm15_5
            have fm20_10 : m20 10 = F10 := by rw [em20, zUp_fn (by decide)]; exact fm15_10
            have fm20_11 : m20 11 = F11 := by rw [em20, zUp_fn (by decide)]; exact fm15_11
            have fm20_44 : m20 44 = F44 := by rw [em20, zUp_fn (by decide)]; exact fm15_44
            have fm20_46 : m20 46 = zPt (zPt (zPt (zPt (zPt (zPt F46 0 x3) 1 x6) 2 a3) 3 x10) 4 0) 5 0 := by rw [em20]; exact (zUp_ff (m := m15)).trans (congrArg (fun q => zPt q 5 0) fm15_46)
            have fm20_48 : m20 48 = F48 := by rw [em20, zUp_fn (by decide)]; exact fm15_48
            have fm20_50 : m20 50 = F50 := by rw [em20, zUp_fn (by decide)]; exact fm15_50
            have fm20_51 : m20 51 = F51 := by rw [em20, zUp_fn (by decide)]; exact fm15_51
            clear em20
            refine zw_push zr_24_112 ?_
            refine zw_push zr_24_115 ?_
            refine zw_7 zr_24_118 rfl ?_
            refine zw_46r (s := 45) zr_24_119 rfl rfl rfl rfl ?_
            refine zw_C zr_24_122 (Or.inl rfl) zm_23 rfl rfl ⟨Nat.le_of_ble_eq_true rfl, Nat.le_of_ble_eq_true rfl, Nat.le_of_ble_eq_true rfl, rfl, by decide⟩ (by omega) (th_23 (d := d - 1) (by omega) hIm20  (g0 := g1)  (F46 := zPt (zPt (zPt (zPt (zPt (zPt F46 0 x3) 1 x6) 2 a3) 3 x10) 4 0) 5 0) (F48 := F48) (F49 := m20 49) km20_45_8 fm20_46 fm20_48 rfl  ) ?_
            rintro _ m21 ⟨r22, rfl, hr22a, hr22b, hIm21, gm21, po0_r22⟩
            have hFm21 : zFr W_24 m0 m21 := hFm20.trans gm21 rfl
            have km21_45_1 : m21 45 1 = g0 := (gm21 45 1 rfl).trans km20_45_1
            have km21_45_8 : m21 45 8 = g1 := (gm21 45 8 rfl).trans km20_45_8
            have km21_1_2 : m21 1 2 = g2 := (gm21 1 2 rfl).trans km20_1_2
            have fm21_5 : m21 5 = F5 := (funext fun k => gm21 5 k rfl).trans fm20_5
            have fm21_10 : m21 10 = F10 := (funext fun k => gm21 10 k rfl).trans fm20_10
            have fm21_11 : m21 11 = F11 := (funext fun k => gm21 11 k rfl).trans fm20_11
            have fm21_44 : m21 44 = F44 := (funext fun k => gm21 44 k rfl).trans fm20_44
            have fm21_46 : m21 46 = zPt (zPt (zPt (zPt (zPt (zPt F46 0 x3) 1 x6) 2 a3) 3 x10) 4 0) 5 0 := (funext fun k => gm21 46 k rfl).trans fm20_46
            have fm21_48 : m21 48 = F48 := (funext fun k => gm21 48 k rfl).trans fm20_48
            have fm21_50 : m21 50 = F50 := (funext fun k => gm21 50 k rfl).trans fm20_50
            have fm21_51 : m21 51 = F51 := (funext fun k => gm21 51 k rfl).trans fm20_51
            show zW E (d) 24 125 [(2, 43), (0, a0), (0, a1), (0, a2), (0, a3), (2, 46)] [(1, r22), (1, 500), (1, (-500))] m21 Q
            refine zw_124 zr_24_125 (Nat.le_of_ble_eq_true rfl) (by omega) (by omega) (by omega) ?_
            intro x23 hx23a hx23b hx23c
            refine zw_123 zr_24_128 (Nat.le_of_ble_eq_true rfl) (by omega) (by omega) (by omega) ?_
            intro x24 hx24a hx24b hx24c
            refine zw_37x zr_24_131 (by omega) ?_
            refine zw_R zr_24_132 (by decide) zm_24 (v := (0, x24)) rfl ?_
            rw [← hQ]; exact ⟨_, rfl, by omega, by omega, hIm21, hFm21, by first | exact chg_e (zCg_c hp0 (Or.inr po0_r22) (Or.inr (by exact ⟨rfl, rfl, rfl, rfl, rfl, rfl⟩)) (by omega)) ha hb hm (Or.inl ⟨by omega, rfl, hy, hl⟩) hv | exact chg_e (y := 0) (l := 0) (zCg_c hp0 (Or.inr po0_r22) (Or.inr (by exact ⟨rfl, rfl, rfl, rfl, rfl, rfl⟩)) (by omega)) ha hb hm (Or.inr ⟨by omega, rfl⟩) hv | exact zCg_c (F := fun _ => 0) (x := 0) hp0 (Or.inl (by omega)) (Or.inl (by omega)) (Or.inl (by omega)), by omega⟩
          · intro h27; omega
        · intro h28
          refine zw_push zr_18_13 ?_
          refine zw_42 zr_18_14 ?_
          refine zw_R zr_18_18 (by decide) zm_18 (v := (0, 1)) (zRetB (by omega)) ?_
          rw [← hQ1]
          show zW E (d) 24 103 [(2, 43), (0, a0), (0, a1), (0, a2), (0, a3), (2, 46)] [(0, 1), (0, 5), (2, 46)] m15 Q
          refine zw_40_1 zr_24_103 ?_ ?_
          · intro h29; omega
          · intro h30
            refine zw_push zr_24_106 ?_
            refine zw_42 zr_24_107 ?_
            have hv : 1 = zbt g2 a0.toNat := by have := zbt_01 g2 a0.toNat; omega
            refine zw_51 (c := 46) (len := 6) zr_24_111 rfl rfl (by omega) (by omega) ?_
            intro m32 em32
            have hIm32 : zInv m32 := by rw [em32]; exact hIm15.anyl (by omega) (zK3 rfl) rfl (by decide) (by decide)
            have hFm32 : zFr W_24 m0 m32 := by rw [em32]; exact hFm15.any rfl
            have km32_45_1 : m32 45 1 = g0 := by rw [em32, zUp_ne (by omega)]; exact km15_45_1
            have km32_45_8 : m32 45 8 = g1 := by rw [em32, zUp_ne (by omega)]; exact km15_45_8
            have km32_1_2 : m32 1 2 = g2 := by rw [em32, zUp_ne (by omega)]; exact km15_1_2
            have fm32_5 : m32 5 = F5 := by rw [em32, zUp_fn (by decide)]; exact fm15_5
            have fm32_10 : m32 10 = F10 := by rw [em32, zUp_fn (by decide)]; exact fm15_10
            have fm32_11 : m32 11 = F11 := by rw [em32, zUp_fn (by decide)]; exact fm15_11
            have fm32_44 : m32 44 = F44 := by rw [em32, zUp_fn (by decide)]; exact fm15_44
            have fm32_46 : m32 46 = zPt (zPt (zPt (zPt (zPt (zPt F46 0 x3) 1 x6) 2 a3) 3 x10) 4 0) 5 1 := by rw [em32]; exact (zUp_ff (m := m15)).trans (congrArg (fun q => zPt q 5 1) fm15_46)
            have fm32_48 : m32 48 = F48 := by rw [em32, zUp_fn (by decide)]; exact fm15_48
            have fm32_50 : m32 50 = F50 := by rw [em32, zUp_fn (by decide)]; exact fm15_50
            have fm32_51 : m32 51 = F51 := by rw [em32, zUp_fn (by decide)]; exact fm15_51
            clear em32
            refine zw_push zr_24_112 ?_
            refine zw_push zr_24_115 ?_
            refine zw_7 zr_24_118 rfl ?_
            refine zw_46r (s := 45) zr_24_119 rfl rfl rfl rfl ?_
            refine zw_C zr_24_122 (Or.inl rfl) zm_23 rfl rfl ⟨Nat.le_of_ble_eq_true rfl, Nat.le_of_ble_eq_true rfl, Nat.le_of_ble_eq_true rfl, rfl, by decide⟩ (by omega) (th_23 (d := d - 1) (by omega) hIm32  (g0 := g1)  (F46 := zPt (zPt (zPt (zPt (zPt (zPt F46 0 x3) 1 x6) 2 a3) 3 x10) 4 0) 5 1) (F48 := F48) (F49 := m32 49) km32_45_8 fm32_46 fm32_48 rfl  ) ?_
            rintro _ m33 ⟨r34, rfl, hr34a, hr34b, hIm33, gm33, po0_r34⟩
            have hFm33 : zFr W_24 m0 m33 := hFm32.trans gm33 rfl
            have km33_45_1 : m33 45 1 = g0 := (gm33 45 1 rfl).trans km32_45_1
            have km33_45_8 : m33 45 8 = g1 := (gm33 45 8 rfl).trans km32_45_8
            have km33_1_2 : m33 1 2 = g2 := (gm33 1 2 rfl).trans km32_1_2
            have fm33_5 : m33 5 = F5 := (funext fun k => gm33 5 k rfl).trans fm32_5
            have fm33_10 : m33 10 = F10 := (funext fun k => gm33 10 k rfl).trans fm32_10
            have fm33_11 : m33 11 = F11 := (funext fun k => gm33 11 k rfl).trans fm32_11
            have fm33_44 : m33 44 = F44 := (funext fun k => gm33 44 k rfl).trans fm32_44
            have fm33_46 : m33 46 = zPt (zPt (zPt (zPt (zPt (zPt F46 0 x3) 1 x6) 2 a3) 3 x10) 4 0) 5 1 := (funext fun k => gm33 46 k rfl).trans fm32_46
            have fm33_48 : m33 48 = F48 := (funext fun k => gm33 48 k rfl).trans fm32_48
            have fm33_50 : m33 50 = F50 := (funext fun k => gm33 50 k rfl).trans fm32_50
            have fm33_51 : m33 51 = F51 := (funext fun k => gm33 51 k rfl).trans fm32_51
            show zW E (d) 24 125 [(2, 43), (0, a0), (0, a1), (0, a2), (0, a3), (2, 46)] [(1, r34), (1, 500), (1, (-500))] m33 Q
            refine zw_124 zr_24_125 (Nat.le_of_ble_eq_true rfl) (by omega) (by omega) (by omega) ?_
            intro x35 hx35a hx35b hx35c
            refine zw_123 zr_24_128 (Nat.le_of_ble_eq_true rfl) (by omega) (by omega) (by omega) ?_
            intro x36 hx36a hx36b hx36c
            refine zw_37x zr_24_131 (by omega) ?_
            refine zw_R zr_24_132 (by decide) zm_24 (v := (0, x36)) rfl ?_
            rw [← hQ]; exact ⟨_, rfl, by omega, by omega, hIm33, hFm33, by first | exact chg_e (zCg_c hp0 (Or.inr po0_r34) (Or.inr (by exact ⟨rfl, rfl, rfl, rfl, rfl, rfl⟩)) (by omega)) ha hb hm (Or.inl ⟨by omega, rfl, hy, hl⟩) hv | exact chg_e (y := 0) (l := 0) (zCg_c hp0 (Or.inr po0_r34) (Or.inr (by exact ⟨rfl, rfl, rfl, rfl, rfl, rfl⟩)) (by omega)) ha hb hm (Or.inr ⟨by omega, rfl⟩) hv | exact zCg_c (F := fun _ => 0) (x := 0) hp0 (Or.inl (by omega)) (Or.inl (by omega)) (Or.inl (by omega)), by omega⟩
      · intro h39
        refine zw_7 zr_24_70 rfl ?_
        refine zw_46r (s := 1) zr_24_71 rfl rfl rfl rfl ?_
        refine zw_46r (s := 5) zr_24_74 rfl rfl rfl rfl ?_
        refine zw_3 zr_24_77 rfl ?_
        refine zw_48 (c := 5) (len := 60) zr_24_78 rfl rfl (by omega) (by omega) ?_
        intro x40 ex40
        have bx40 := ib_5 hIm12 (k := (a0).toNat) (by omega)
        rw [← ex40] at bx40
        have qx40 : x40 = F5 (a0).toNat := by rw [← fm12_5]; exact ex40
        clear ex40
        refine zw_7 zr_24_79 rfl ?_
        refine zw_46r (s := 51) zr_24_80 rfl rfl rfl rfl ?_
        refine zw_3 zr_24_83 rfl ?_
        refine zw_48 (c := 51) (len := 10) zr_24_84 rfl rfl (by omega) (by omega) ?_
        intro x41 ex41
        have bx41 := ib_51 hIm12 (k := (a1).toNat) (by omega)
        rw [← ex41] at bx41
        have qx41 : x41 = F51 (a1).toNat := by rw [← fm12_51]; exact ex41
        clear ex41
        have hy := qx40
        have hl := qx41
        refine zw_17 zr_24_85 (by omega) ?_
        refine zw_36 zr_24_86 ?_
        refine zw_42 zr_24_87 ?_
        refine zw_51 (c := 46) (len := 6) zr_24_91 rfl rfl (by omega) (by omega) ?_
        intro m44 em44
        have hIm44 : zInv m44 := by rw [em44]; exact hIm12.anyl (by omega) (zK3 rfl) rfl (by decide) (by decide)
        have hFm44 : zFr W_24 m0 m44 := by rw [em44]; exact hFm12.any rfl
        have km44_45_1 : m44 45 1 = g0 := by rw [em44, zUp_ne (by omega)]; exact km12_45_1
        have km44_45_8 : m44 45 8 = g1 := by rw [em44, zUp_ne (by omega)]; exact km12_45_8
        have km44_1_2 : m44 1 2 = g2 := by rw [em44, zUp_ne (by omega)]; exact km12_1_2
        have fm44_5 : m44 5 = F5 := by rw [em44, zUp_fn (by decide)]; exact fm12_5
        have fm44_10 : m44 10 = F10 := by rw [em44, zUp_fn (by decide)]; exact fm12_10
        have fm44_11 : m44 11 = F11 := by rw [em44, zUp_fn (by decide)]; exact fm12_11
        have fm44_44 : m44 44 = F44 := by rw [em44, zUp_fn (by decide)]; exact fm12_44
        have fm44_46 : m44 46 = zPt (zPt (zPt (zPt (zPt F46 0 x3) 1 x6) 2 a3) 3 x10) 4 ((x40 - x41)) := by rw [em44]; exact (zUp_ff (m := m12)).trans (congrArg (fun q => zPt q 4 ((x40 - x41))) fm12_46)
        have fm44_48 : m44 48 = F48 := by rw [em44, zUp_fn (by decide)]; exact fm12_48
        have fm44_50 : m44 50 = F50 := by rw [em44, zUp_fn (by decide)]; exact fm12_50
        have fm44_51 : m44 51 = F51 := by rw [em44, zUp_fn (by decide)]; exact fm12_51
        clear em44
        refine zw_8 zr_24_92 rfl ?_
        refine zw_push zr_24_94 ?_
        refine zw_7 zr_24_95 rfl ?_
        refine zw_46r (s := 1) zr_24_96 rfl rfl rfl rfl ?_
        refine zw_3 zr_24_99 rfl ?_
        refine zw_C zr_24_100 (Or.inl rfl) zm_18 rfl rfl ⟨Nat.le_of_ble_eq_true rfl, Nat.le_of_ble_eq_true rfl, Nat.le_of_ble_eq_true rfl, rfl, by decide⟩ (by omega) (P := (fun v m' => zW E (d) 24 103 [(2, 43), (0, a0), (0, a1), (0, a2), (0, a3), (2, 46)] (if v.1 = 9 then [(0, 5), (2, 46)] else v :: [(0, 5), (2, 46)]) m' Q)) ?_ (fun _ _ h => h)
        generalize hQ1 : (fun v m' => zW E (d) 24 103 [(2, 43), (0, a0), (0, a1), (0, a2), (0, a3), (2, 46)] (if v.1 = 9 then [(0, 5), (2, 46)] else v :: [(0, 5), (2, 46)]) m' Q) = Q1
        show zW E (d - 1) 18 0 [(2, 1), (0, a0)] [] m44 Q1
        refine zw_7 zr_18_0 rfl ?_
        refine zw_46l zr_18_1 km44_1_2 rfl rfl rfl ?_
        refine zw_3 zr_18_4 rfl ?_
        refine zw_34p zr_18_5 (by omega) (by omega) ?_
        intro x45 hx45c hx45a hx45b
        refine zw_push zr_18_6 ?_
        refine zw_30o zr_18_7 (by omega) ?_
        refine zw_push zr_18_8 ?_
        refine zw_39_1 zr_18_9 zr_18_10 ?_ ?_
        · intro h46
          refine zw_push zr_18_17 ?_
          refine zw_R zr_18_18 (by decide) zm_18 (v := (0, 0)) (zRetB (by omega)) ?_
          rw [← hQ1]
          show zW E (d) 24 103 [(2, 43), (0, a0), (0, a1), (0, a2), (0, a3), (2, 46)] [(0, 0), (0, 5), (2, 46)] m44 Q
          refine zw_40_1 zr_24_103 ?_ ?_
          · intro h47
            refine zw_push zr_24_110 ?_
            have hv : 0 = zbt g2 a0.toNat := by have := zbt_01 g2 a0.toNat; omega
            refine zw_51 (c := 46) (len := 6) zr_24_111 rfl rfl (by omega) (by omega) ?_
            intro m49 em49
            have hIm49 : zInv m49 := by rw [em49]; exact hIm44.anyl (by omega) (zK3 rfl) rfl (by decide) (by decide)
            have hFm49 : zFr W_24 m0 m49 := by rw [em49]; exact hFm44.any rfl
            have km49_45_1 : m49 45 1 = g0 := by rw [em49, zUp_ne (by omega)]; exact km44_45_1
            have km49_45_8 : m49 45 8 = g1 := by rw [em49, zUp_ne (by omega)]; exact km44_45_8
            have km49_1_2 : m49 1 2 = g2 := by rw [em49, zUp_ne (by omega)]; exact km44_1_2
            have fm49_5 : m49 5 = F5 := by rw [em49, zUp_fn (by decide)]; exact fm44_5
            have fm49_10 : m49 10 = F10 := by rw [em49, zUp_fn (by decide)]; exact fm44_10
            have fm49_11 : m49 11 = F11 := by rw [em49, zUp_fn (by decide)]; exact fm44_11
            have fm49_44 : m49 44 = F44 := by rw [em49, zUp_fn (by decide)]; exact fm44_44
            have fm49_46 : m49 46 = zPt (zPt (zPt (zPt (zPt (zPt F46 0 x3) 1 x6) 2 a3) 3 x10) 4 ((x40 - x41))) 5 0 := by rw [em49]; exact (zUp_ff (m := m44)).trans (congrArg (fun q => zPt q 5 0) fm44_46)
            have fm49_48 : m49 48 = F48 := by rw [em49, zUp_fn (by decide)]; exact fm44_48
            have fm49_50 : m49 50 = F50 := by rw [em49, zUp_fn (by decide)]; exact fm44_50
            have fm49_51 : m49 51 = F51 := by rw [em49, zUp_fn (by decide)]; exact fm44_51
            clear em49
            refine zw_push zr_24_112 ?_
            refine zw_push zr_24_115 ?_
            refine zw_7 zr_24_118 rfl ?_
            refine zw_46r (s := 45) zr_24_119 rfl rfl rfl rfl ?_
            refine zw_C zr_24_122 (Or.inl rfl) zm_23 rfl rfl ⟨Nat.le_of_ble_eq_true rfl, Nat.le_of_ble_eq_true rfl, Nat.le_of_ble_eq_true rfl, rfl, by decide⟩ (by omega) (th_23 (d := d - 1) (by omega) hIm49  (g0 := g1)  (F46 := zPt (zPt (zPt (zPt (zPt (zPt F46 0 x3) 1 x6) 2 a3) 3 x10) 4 ((x40 - x41))) 5 0) (F48 := F48) (F49 := m49 49) km49_45_8 fm49_46 fm49_48 rfl  ) ?_
            rintro _ m50 ⟨r51, rfl, hr51a, hr51b, hIm50, gm50, po0_r51⟩
            have hFm50 : zFr W_24 m0 m50 := hFm49.trans gm50 rfl
            have km50_45_1 : m50 45 1 = g0 := (gm50 45 1 rfl).trans km49_45_1
            have km50_45_8 : m50 45 8 = g1 := (gm50 45 8 rfl).trans km49_45_8
            have km50_1_2 : m50 1 2 = g2 := (gm50 1 2 rfl).trans km49_1_2
            have fm50_5 : m50 5 = F5 := (funext fun k => gm50 5 k rfl).trans fm49_5
            have fm50_10 : m50 10 = F10 := (funext fun k => gm50 10 k rfl).trans fm49_10
            have fm50_11 : m50 11 = F11 := (funext fun k => gm50 11 k rfl).trans fm49_11
            have fm50_44 : m50 44 = F44 := (funext fun k => gm50 44 k rfl).trans fm49_44
            have fm50_46 : m50 46 = zPt (zPt (zPt (zPt (zPt (zPt F46 0 x3) 1 x6) 2 a3) 3 x10) 4 ((x40 - x41))) 5 0 := (funext fun k => gm50 46 k rfl).trans fm49_46
            have fm50_48 : m50 48 = F48 := (funext fun k => gm50 48 k rfl).trans fm49_48
            have fm50_50 : m50 50 = F50 := (funext fun k => gm50 50 k rfl).trans fm49_50
            have fm50_51 : m50 51 = F51 := (funext fun k => gm50 51 k rfl).trans fm49_51
            show zW E (d) 24 125 [(2, 43), (0, a0), (0, a1), (0, a2), (0, a3), (2, 46)] [(1, r51), (1, 500), (1, (-500))] m50 Q
            refine zw_124 zr_24_125 (Nat.le_of_ble_eq_true rfl) (by omega) (by omega) (by omega) ?_
            intro x52 hx52a hx52b hx52c
            refine zw_123 zr_24_128 (Nat.le_of_ble_eq_true rfl) (by omega) (by omega) (by omega) ?_
            intro x53 hx53a hx53b hx53c
            refine zw_37x zr_24_131 (by omega) ?_
            refine zw_R zr_24_132 (by decide) zm_24 (v := (0, x53)) rfl ?_
            rw [← hQ]; exact ⟨_, rfl, by omega, by omega, hIm50, hFm50, by first | exact chg_e (zCg_c hp0 (Or.inr po0_r51) (Or.inr (by exact ⟨rfl, rfl, rfl, rfl, rfl, rfl⟩)) (by omega)) ha hb hm (Or.inl ⟨by omega, rfl, hy, hl⟩) hv | exact chg_e (y := 0) (l := 0) (zCg_c hp0 (Or.inr po0_r51) (Or.inr (by exact ⟨rfl, rfl, rfl, rfl, rfl, rfl⟩)) (by omega)) ha hb hm (Or.inr ⟨by omega, rfl⟩) hv | exact zCg_c (F := fun _ => 0) (x := 0) hp0 (Or.inl (by omega)) (Or.inl (by omega)) (Or.inl (by omega)), by omega⟩
          · intro h56; omega
        · intro h57
          refine zw_push zr_18_13 ?_
          refine zw_42 zr_18_14 ?_
          refine zw_R zr_18_18 (by decide) zm_18 (v := (0, 1)) (zRetB (by omega)) ?_
          rw [← hQ1]
          show zW E (d) 24 103 [(2, 43), (0, a0), (0, a1), (0, a2), (0, a3), (2, 46)] [(0, 1), (0, 5), (2, 46)] m44 Q
          refine zw_40_1 zr_24_103 ?_ ?_
          · intro h58; omega
          · intro h59
            refine zw_push zr_24_106 ?_
            refine zw_42 zr_24_107 ?_
            have hv : 1 = zbt g2 a0.toNat := by have := zbt_01 g2 a0.toNat; omega
            refine zw_51 (c := 46) (len := 6) zr_24_111 rfl rfl (by omega) (by omega) ?_
            intro m61 em61
            have hIm61 : zInv m61 := by rw [em61]; exact hIm44.anyl (by omega) (zK3 rfl) rfl (by decide) (by decide)
            have hFm61 : zFr W_24 m0 m61 := by rw [em61]; exact hFm44.any rfl
            have km61_45_1 : m61 45 1 = g0 := by rw [em61, zUp_ne (by omega)]; exact km44_45_1
            have km61_45_8 : m61 45 8 = g1 := by rw [em61, zUp_ne (by omega)]; exact km44_45_8
            have km61_1_2 : m61 1 2 = g2 := by rw [em61, zUp_ne (by omega)]; exact km44_1_2
            have fm61_5 : m61 5 = F5 := by rw [em61, zUp_fn (by decide)]; exact fm44_5
            have fm61_10 : m61 10 = F10 := by rw [em61, zUp_fn (by decide)]; exact fm44_10
            have fm61_11 : m61 11 = F11 := by rw [em61, zUp_fn (by decide)]; exact fm44_11
            have fm61_44 : m61 44 = F44 := by rw [em61, zUp_fn (by decide)]; exact fm44_44
            have fm61_46 : m61 46 = zPt (zPt (zPt (zPt (zPt (zPt F46 0 x3) 1 x6) 2 a3) 3 x10) 4 ((x40 - x41))) 5 1 := by rw [em61]; exact (zUp_ff (m := m44)).trans (congrArg (fun q => zPt q 5 1) fm44_46)
            have fm61_48 : m61 48 = F48 := by rw [em61, zUp_fn (by decide)]; exact fm44_48
            have fm61_50 : m61 50 = F50 := by rw [em61, zUp_fn (by decide)]; exact fm44_50
            have fm61_51 : m61 51 = F51 := by rw [em61, zUp_fn (by decide)]; exact fm44_51
            clear em61
            refine zw_push zr_24_112 ?_
            refine zw_push zr_24_115 ?_
            refine zw_7 zr_24_118 rfl ?_
            refine zw_46r (s := 45) zr_24_119 rfl rfl rfl rfl ?_
            refine zw_C zr_24_122 (Or.inl rfl) zm_23 rfl rfl ⟨Nat.le_of_ble_eq_true rfl, Nat.le_of_ble_eq_true rfl, Nat.le_of_ble_eq_true rfl, rfl, by decide⟩ (by omega) (th_23 (d := d - 1) (by omega) hIm61  (g0 := g1)  (F46 := zPt (zPt (zPt (zPt (zPt (zPt F46 0 x3) 1 x6) 2 a3) 3 x10) 4 ((x40 - x41))) 5 1) (F48 := F48) (F49 := m61 49) km61_45_8 fm61_46 fm61_48 rfl  ) ?_
            rintro _ m62 ⟨r63, rfl, hr63a, hr63b, hIm62, gm62, po0_r63⟩
            have hFm62 : zFr W_24 m0 m62 := hFm61.trans gm62 rfl
            have km62_45_1 : m62 45 1 = g0 := (gm62 45 1 rfl).trans km61_45_1
            have km62_45_8 : m62 45 8 = g1 := (gm62 45 8 rfl).trans km61_45_8
            have km62_1_2 : m62 1 2 = g2 := (gm62 1 2 rfl).trans km61_1_2
            have fm62_5 : m62 5 = F5 := (funext fun k => gm62 5 k rfl).trans fm61_5
            have fm62_10 : m62 10 = F10 := (funext fun k => gm62 10 k rfl).trans fm61_10
            have fm62_11 : m62 11 = F11 := (funext fun k => gm62 11 k rfl).trans fm61_11
            have fm62_44 : m62 44 = F44 := (funext fun k => gm62 44 k rfl).trans fm61_44
            have fm62_46 : m62 46 = zPt (zPt (zPt (zPt (zPt (zPt F46 0 x3) 1 x6) 2 a3) 3 x10) 4 ((x40 - x41))) 5 1 := (funext fun k => gm62 46 k rfl).trans fm61_46
            have fm62_48 : m62 48 = F48 := (funext fun k => gm62 48 k rfl).trans fm61_48
            have fm62_50 : m62 50 = F50 := (funext fun k => gm62 50 k rfl).trans fm61_50
            have fm62_51 : m62 51 = F51 := (funext fun k => gm62 51 k rfl).trans fm61_51
            show zW E (d) 24 125 [(2, 43), (0, a0), (0, a1), (0, a2), (0, a3), (2, 46)] [(1, r63), (1, 500), (1, (-500))] m62 Q
            refine zw_124 zr_24_125 (Nat.le_of_ble_eq_true rfl) (by omega) (by omega) (by omega) ?_
            intro x64 hx64a hx64b hx64c
            refine zw_123 zr_24_128 (Nat.le_of_ble_eq_true rfl) (by omega) (by omega) (by omega) ?_
            intro x65 hx65a hx65b hx65c
            refine zw_37x zr_24_131 (by omega) ?_
            refine zw_R zr_24_132 (by decide) zm_24 (v := (0, x65)) rfl ?_
            rw [← hQ]; exact ⟨_, rfl, by omega, by omega, hIm62, hFm62, by first | exact chg_e (zCg_c hp0 (Or.inr po0_r63) (Or.inr (by exact ⟨rfl, rfl, rfl, rfl, rfl, rfl⟩)) (by omega)) ha hb hm (Or.inl ⟨by omega, rfl, hy, hl⟩) hv | exact chg_e (y := 0) (l := 0) (zCg_c hp0 (Or.inr po0_r63) (Or.inr (by exact ⟨rfl, rfl, rfl, rfl, rfl, rfl⟩)) (by omega)) ha hb hm (Or.inr ⟨by omega, rfl⟩) hv | exact zCg_c (F := fun _ => 0) (x := 0) hp0 (Or.inl (by omega)) (Or.inl (by omega)) (Or.inl (by omega)), by omega⟩
    · intro h68; omega
  · intro h69
    refine zw_push zr_17_11 ?_
    refine zw_42 zr_17_12 ?_
    refine zw_R zr_17_16 (by decide) zm_17 (v := (0, 1)) (zRetB (by omega)) ?_
    rw [← hQ1]
    show zW E (d) 24 4 [(2, 43), (0, a0), (0, a1), (0, a2), (0, a3), (9, 0)] [(0, 1)] m0 Q
    refine zw_40_1 zr_24_4 ?_ ?_
    · intro h70; omega
    · intro h71
      refine zw_push zr_24_7 ?_
      refine zw_R zr_24_8 (by decide) zm_24 (v := (0, 0)) rfl ?_
      rw [← hQ]; exact ⟨_, rfl, by omega, by omega, hI0, hF0, by first | exact chg_e (zCg_c hp0 (Or.inr zz) (Or.inr (by exact ⟨rfl, rfl, rfl, rfl, rfl, rfl⟩)) (by omega)) ha hb hm (Or.inl ⟨by omega, rfl, hy, hl⟩) hv | exact chg_e (y := 0) (l := 0) (zCg_c hp0 (Or.inr zz) (Or.inr (by exact ⟨rfl, rfl, rfl, rfl, rfl, rfl⟩)) (by omega)) ha hb hm (Or.inr ⟨by omega, rfl⟩) hv | exact zCg_c (F := fun _ => 0) (x := 0) hp0 (Or.inl (by omega)) (Or.inl (by omega)) (Or.inl (by omega)), by omega⟩

abbrev W_25 : List (Nat × Nat) := [(44, 1000), (50, 1000), (51, 1000)]
set_option maxHeartbeats 8000000 in
theorem th_25 {E : zE} {d : Nat} {m0 : zM} {a0 : Int} {a1 : Int} {a2 : Int} {F44 : Nat → Int} {F50 : Nat → Int} {F51 : Nat → Int} (hd : 1 ≤ d) (hI0 : zInv m0) (hG44 : m0 44 = F44) (hG50 : m0 50 = F50) (hG51 : m0 51 = F51) (ha0 : 0 ≤ a0 ∧ a0 ≤ 9) (ha1 : (-500) ≤ a1 ∧ a1 ≤ 500) (ha2 : 0 ≤ a2 ∧ a2 ≤ 99) (hp0 : -100000 ≤ F44 a0.toNat ∧ F44 a0.toNat ≤ 100000) (hp1 : 0 ≤ F50 a0.toNat ∧ F50 a0.toNat ≤ 100000) : zC E d 25 [(2, 43), (0, a0), (0, a1), (0, a2)] m0 (fun v m' => v = (9, 0) ∧ zInv m' ∧ zFr W_25 m0 m' ∧ (m' 44 = zPt F44 a0.toNat (F44 a0.toNat + a1)) ∧ (m' 50 = zPt F50 a0.toNat (F50 a0.toNat + 1)) ∧ (m' 51 = zPt F51 a0.toNat a2)) := by
  have hF0 : zFr W_25 m0 m0 := zFr.rfl
  generalize hQ : (fun (v : zV) (m' : zM) => v = (9, 0) ∧ zInv m' ∧ zFr W_25 m0 m' ∧ (m' 44 = zPt F44 a0.toNat (F44 a0.toNat + a1)) ∧ (m' 50 = zPt F50 a0.toNat (F50 a0.toNat + 1)) ∧ (m' 51 = zPt F51 a0.toNat a2)) = Q
  show zW E d 25 0 [(2, 43), (0, a0), (0, a1), (0, a2)] [] m0 Q
  refine zw_7 zr_25_0 rfl ?_
  refine zw_46r (s := 44) zr_25_1 rfl rfl rfl rfl ?_
  refine zw_3 zr_25_4 rfl ?_
  refine zw_45 zr_25_5 ⟨rfl, rfl⟩ ?_
  refine zw_48 (c := 44) (len := 10) zr_25_6 rfl rfl (by omega) (by omega) ?_
  intro x1 ex1
  have bx1 := hI0.ra (c := 44) (len := 10) (k := (a0).toNat) rfl (by omega)
  rw [← ex1] at bx1
  have qx1 : x1 = F44 (a0).toNat := by rw [← hG44]; exact ex1
  clear ex1
  have hb := hp0
  rw [← qx1] at hb
  refine zw_3 zr_25_7 rfl ?_
  refine zw_16 zr_25_8 (by omega) ?_
  refine zw_49 (c := 44) (len := 10) zr_25_9 rfl rfl (by omega) (by omega) ?_
  intro m4 em4
  have hIm4 : zInv m4 := by rw [em4]; exact hI0.any (by omega) rfl (by decide) (by decide)
  have hFm4 : zFr W_25 m0 m4 := by rw [em4]; exact hF0.any rfl
  have fm4_44 : m4 44 = zPt F44 ((a0).toNat) ((x1 + a1)) := by rw [em4]; exact (zUp_ff (m := m0)).trans (congrArg (fun q => zPt q ((a0).toNat) ((x1 + a1))) hG44)
  have fm4_50 : m4 50 = F50 := by rw [em4, zUp_fn (by decide)]; exact hG50
  have fm4_51 : m4 51 = F51 := by rw [em4, zUp_fn (by decide)]; exact hG51
  clear em4
  refine zw_7 zr_25_10 rfl ?_
  refine zw_46r (s := 50) zr_25_11 rfl rfl rfl rfl ?_
  refine zw_3 zr_25_14 rfl ?_
  refine zw_45 zr_25_15 ⟨rfl, rfl⟩ ?_
  refine zw_48 (c := 50) (len := 10) zr_25_16 rfl rfl (by omega) (by omega) ?_
  intro x5 ex5
  have bx5 := hIm4.ra (c := 50) (len := 10) (k := (a0).toNat) rfl (by omega)
  rw [← ex5] at bx5
  have qx5 : x5 = F50 (a0).toNat := by rw [← fm4_50]; exact ex5
  clear ex5
  have hc := hp1
  rw [← qx5] at hc
  refine zw_push zr_25_17 ?_
  refine zw_16 zr_25_18 (by omega) ?_
  refine zw_49 (c := 50) (len := 10) zr_25_19 rfl rfl (by omega) (by omega) ?_
  intro m8 em8
  have hIm8 : zInv m8 := by rw [em8]; exact hIm4.any (by omega) rfl (by decide) (by decide)
  have hFm8 : zFr W_25 m0 m8 := by rw [em8]; exact hFm4.any rfl
  have fm8_44 : m8 44 = zPt F44 ((a0).toNat) ((x1 + a1)) := by rw [em8, zUp_fn (by decide)]; exact fm4_44
  have fm8_50 : m8 50 = zPt F50 ((a0).toNat) ((x5 + 1)) := by rw [em8]; exact (zUp_ff (m := m4)).trans (congrArg (fun q => zPt q ((a0).toNat) ((x5 + 1))) fm4_50)
  have fm8_51 : m8 51 = F51 := by rw [em8, zUp_fn (by decide)]; exact fm4_51
  clear em8
  refine zw_7 zr_25_20 rfl ?_
  refine zw_46r (s := 51) zr_25_21 rfl rfl rfl rfl ?_
  refine zw_3 zr_25_24 rfl ?_
  refine zw_3 zr_25_25 rfl ?_
  refine zw_49 (c := 51) (len := 10) zr_25_26 rfl rfl (by omega) (by omega) ?_
  intro m9 em9
  have hIm9 : zInv m9 := by rw [em9]; exact iu_51 hIm8 (by omega)
  have hFm9 : zFr W_25 m0 m9 := by rw [em9]; exact hFm8.any rfl
  have fm9_44 : m9 44 = zPt F44 ((a0).toNat) ((x1 + a1)) := by rw [em9, zUp_fn (by decide)]; exact fm8_44
  have fm9_50 : m9 50 = zPt F50 ((a0).toNat) ((x5 + 1)) := by rw [em9, zUp_fn (by decide)]; exact fm8_50
  have fm9_51 : m9 51 = zPt F51 ((a0).toNat) a2 := by rw [em9]; exact (zUp_ff (m := m8)).trans (congrArg (fun q => zPt q ((a0).toNat) a2) fm8_51)
  clear em9
  refine zw_R zr_25_27 (by decide) zm_25 (v := (9, 0)) rfl ?_
  rw [← hQ]; exact ⟨rfl, hIm9, hFm9, by rw [fm9_44, qx1], by rw [fm9_50, qx5], by rw [fm9_51]⟩

abbrev W_26 : List (Nat × Nat) := [(43, 5), (44, 1000), (45, 9), (46, 1000), (49, 1000), (50, 1000), (51, 1000)]
set_option maxHeartbeats 8000000 in
theorem th_26 {E : zE} {d : Nat} {m0 : zM} {a0 : Int} {g0 : Int} {g1 : Int} {g2 : Int} {gS : Int} {gN : Int} {F5 : Nat → Int} {F6 : Nat → Int} {F7 : Nat → Int} {F8 : Nat → Int} {F10 : Nat → Int} {F11 : Nat → Int} {F44 : Nat → Int} {F48 : Nat → Int} {F50 : Nat → Int} {F51 : Nat → Int} (hd : 5 ≤ d) (hI0 : zInv m0) (hg0 : m0 45 1 = g0) (hg1 : m0 45 8 = g1) (hg2 : m0 1 2 = g2) (hG5 : m0 5 = F5) (hG6 : m0 6 = F6) (hG7 : m0 7 = F7) (hG8 : m0 8 = F8) (hG10 : m0 10 = F10) (hG11 : m0 11 = F11) (hG44 : m0 44 = F44) (hG48 : m0 48 = F48) (hG50 : m0 50 = F50) (hG51 : m0 51 = F51) (ha0 : 0 ≤ a0 ∧ a0 ≤ 59) (hp0 : zPc (chc F11 F10 gS) F48 g1 g0) (hp1 : zPb (F44, F50, F51) gN) (hp2 : 0 ≤ gN ∧ gN ≤ 60) : zC E d 26 [(2, 43), (0, a0)] m0 (fun v m' => v = (9, 0) ∧ zInv m' ∧ zFr W_26 m0 m' ∧ (zPy (chc F11 F10 gS) F6 F7 F8 F5 (zbt g2) a0.toNat (F44, F50, F51) (m' 44, m' 50, m' 51) (m' 43 5)) ∧ (zPb (m' 44, m' 50, m' 51) (gN + 1)) ∧ (-1000 ≤ m' 43 5 ∧ m' 43 5 ≤ 1000)) := by
  have hF0 : zFr W_26 m0 m0 := zFr.rfl
  have bg0 := hI0.fi (c := 45) (k := 1) rfl
  rw [hg0] at bg0
  have bg1 := ib_45_8 hI0
  rw [hg1] at bg1
  have bg2 := ib_1_2 hI0
  rw [hg2] at bg2
  generalize hQ : (fun (v : zV) (m' : zM) => v = (9, 0) ∧ zInv m' ∧ zFr W_26 m0 m' ∧ (zPy (chc F11 F10 gS) F6 F7 F8 F5 (zbt g2) a0.toNat (F44, F50, F51) (m' 44, m' 50, m' 51) (m' 43 5)) ∧ (zPb (m' 44, m' 50, m' 51) (gN + 1)) ∧ (-1000 ≤ m' 43 5 ∧ m' 43 5 ≤ 1000)) = Q
  show zW E d 26 0 [(2, 43), (0, a0), (9, 0), (9, 0), (9, 0), (9, 0)] [] m0 Q
  refine zw_7 zr_26_0 rfl ?_
  refine zw_46r (s := 1) zr_26_1 rfl rfl rfl rfl ?_
  refine zw_46r (s := 6) zr_26_4 rfl rfl rfl rfl ?_
  refine zw_3 zr_26_7 rfl ?_
  refine zw_48 (c := 6) (len := 60) zr_26_8 rfl rfl (by omega) (by omega) ?_
  intro x1 ex1
  have bx1 := ib_6 hI0 (k := (a0).toNat) (by omega)
  rw [← ex1] at bx1
  have qx1 : x1 = F6 (a0).toNat := by rw [← hG6]; exact ex1
  clear ex1
  have hA := qx1
  refine zw_9 (L' := [(2, 43), (0, a0), (0, x1), (9, 0), (9, 0), (9, 0)]) zr_26_9 (Nat.le_of_ble_eq_true rfl) rfl ?_
  refine zw_7 zr_26_10 rfl ?_
  refine zw_46r (s := 1) zr_26_11 rfl rfl rfl rfl ?_
  refine zw_46r (s := 7) zr_26_14 rfl rfl rfl rfl ?_
  refine zw_3 zr_26_17 rfl ?_
  refine zw_48 (c := 7) (len := 60) zr_26_18 rfl rfl (by omega) (by omega) ?_
  intro x3 ex3
  have bx3 := ib_7 hI0 (k := (a0).toNat) (by omega)
  rw [← ex3] at bx3
  have qx3 : x3 = F7 (a0).toNat := by rw [← hG7]; exact ex3
  clear ex3
  have hB := qx3
  refine zw_9 (L' := [(2, 43), (0, a0), (0, x1), (0, x3), (9, 0), (9, 0)]) zr_26_19 (Nat.le_of_ble_eq_true rfl) rfl ?_
  refine zw_7 zr_26_20 rfl ?_
  refine zw_3 zr_26_21 rfl ?_
  refine zw_3 zr_26_22 rfl ?_
  refine zw_3 zr_26_23 rfl ?_
  refine zw_7 zr_26_24 rfl ?_
  refine zw_46r (s := 1) zr_26_25 rfl rfl rfl rfl ?_
  refine zw_46r (s := 8) zr_26_28 rfl rfl rfl rfl ?_
  refine zw_3 zr_26_31 rfl ?_
  refine zw_48 (c := 8) (len := 60) zr_26_32 rfl rfl (by omega) (by omega) ?_
  intro x5 ex5
  have bx5 := ib_8 hI0 (k := (a0).toNat) (by omega)
  rw [← ex5] at bx5
  have qx5 : x5 = F8 (a0).toNat := by rw [← hG8]; exact ex5
  clear ex5
  have hE := qx5
  refine zw_C zr_26_33 (Or.inl rfl) zm_24 rfl rfl ⟨Nat.le_of_ble_eq_true rfl, Nat.le_of_ble_eq_true rfl, Nat.le_of_ble_eq_true rfl, rfl, by decide⟩ (by omega) (th_24 (d := d - 1) (by omega) hI0 (a0 := a0) (a1 := x1) (a2 := x3) (a3 := x5) (g0 := g0) (g1 := g1) (g2 := g2) (gS := gS) (F5 := F5) (F10 := F10) (F11 := F11) (F44 := F44) (F46 := m0 46) (F48 := F48) (F50 := F50) (F51 := F51) hg0 hg1 hg2 hG5 hG10 hG11 hG44 rfl hG48 hG50 hG51 (by omega) (by omega) (by omega) (by omega) (hp0)) ?_
  rintro _ m9 ⟨r10, rfl, hr10a, hr10b, hIm9, gm9, po0_r10, po1_r10⟩
  have hFm9 : zFr W_26 m0 m9 := hF0.trans gm9 rfl
  have km9_45_1 : m9 45 1 = g0 := (gm9 45 1 rfl).trans hg0
  have km9_45_8 : m9 45 8 = g1 := (gm9 45 8 rfl).trans hg1
  have km9_1_2 : m9 1 2 = g2 := (gm9 1 2 rfl).trans hg2
  have fm9_5 : m9 5 = F5 := (funext fun k => gm9 5 k rfl).trans hG5
  have fm9_6 : m9 6 = F6 := (funext fun k => gm9 6 k rfl).trans hG6
  have fm9_7 : m9 7 = F7 := (funext fun k => gm9 7 k rfl).trans hG7
  have fm9_8 : m9 8 = F8 := (funext fun k => gm9 8 k rfl).trans hG8
  have fm9_10 : m9 10 = F10 := (funext fun k => gm9 10 k rfl).trans hG10
  have fm9_11 : m9 11 = F11 := (funext fun k => gm9 11 k rfl).trans hG11
  have fm9_44 : m9 44 = F44 := (funext fun k => gm9 44 k rfl).trans hG44
  have fm9_48 : m9 48 = F48 := (funext fun k => gm9 48 k rfl).trans hG48
  have fm9_50 : m9 50 = F50 := (funext fun k => gm9 50 k rfl).trans hG50
  have fm9_51 : m9 51 = F51 := (funext fun k => gm9 51 k rfl).trans hG51
  show zW E (d) 26 36 [(2, 43), (0, a0), (0, x1), (0, x3), (9, 0), (9, 0)] [(0, r10)] m9 Q
  have hc1 := po0_r10
  have hd1 := po1_r10
  refine zw_10 (L' := [(2, 43), (0, a0), (0, x1), (0, x3), (0, r10), (9, 0)]) zr_26_36 (Nat.le_of_ble_eq_true rfl) rfl ?_
  refine zw_7 zr_26_38 rfl ?_
  refine zw_3 zr_26_39 rfl ?_
  refine zw_3 zr_26_40 rfl ?_
  refine zw_3 zr_26_41 rfl ?_
  refine zw_push zr_26_42 ?_
  refine zw_7 zr_26_43 rfl ?_
  refine zw_46r (s := 1) zr_26_44 rfl rfl rfl rfl ?_
  refine zw_46r (s := 8) zr_26_47 rfl rfl rfl rfl ?_
  refine zw_3 zr_26_50 rfl ?_
  refine zw_48 (c := 8) (len := 60) zr_26_51 rfl rfl (by omega) (by omega) ?_
  intro x11 ex11
  have bx11 := ib_8 hIm9 (k := (a0).toNat) (by omega)
  rw [← ex11] at bx11
  have qx11 : x11 = F8 (a0).toNat := by rw [← fm9_8]; exact ex11
  clear ex11
  have he : x11 = x5 := qx11.trans hE.symm
  refine zw_17 zr_26_52 (by omega) ?_
  refine zw_C zr_26_53 (Or.inl rfl) zm_24 rfl rfl ⟨Nat.le_of_ble_eq_true rfl, Nat.le_of_ble_eq_true rfl, Nat.le_of_ble_eq_true rfl, rfl, by decide⟩ (by omega) (th_24 (d := d - 1) (by omega) hIm9 (a0 := a0) (a1 := x3) (a2 := x1) (a3 := (2 - x11)) (g0 := g0) (g1 := g1) (g2 := g2) (gS := gS) (F5 := F5) (F10 := F10) (F11 := F11) (F44 := F44) (F46 := m9 46) (F48 := F48) (F50 := F50) (F51 := F51) km9_45_1 km9_45_8 km9_1_2 fm9_5 fm9_10 fm9_11 fm9_44 rfl fm9_48 fm9_50 fm9_51 (by omega) (by omega) (by omega) (by omega) (hp0)) ?_
  rintro _ m15 ⟨r16, rfl, hr16a, hr16b, hIm15, gm15, po0_r16, po1_r16⟩
  have hFm15 : zFr W_26 m0 m15 := hFm9.trans gm15 rfl
  have km15_45_1 : m15 45 1 = g0 := (gm15 45 1 rfl).trans km9_45_1
  have km15_45_8 : m15 45 8 = g1 := (gm15 45 8 rfl).trans km9_45_8
  have km15_1_2 : m15 1 2 = g2 := (gm15 1 2 rfl).trans km9_1_2
  have fm15_5 : m15 5 = F5 := (funext fun k => gm15 5 k rfl).trans fm9_5
  have fm15_6 : m15 6 = F6 := (funext fun k => gm15 6 k rfl).trans fm9_6
  have fm15_7 : m15 7 = F7 := (funext fun k => gm15 7 k rfl).trans fm9_7
  have fm15_8 : m15 8 = F8 := (funext fun k => gm15 8 k rfl).trans fm9_8
  have fm15_10 : m15 10 = F10 := (funext fun k => gm15 10 k rfl).trans fm9_10
  have fm15_11 : m15 11 = F11 := (funext fun k => gm15 11 k rfl).trans fm9_11
  have fm15_44 : m15 44 = F44 := (funext fun k => gm15 44 k rfl).trans fm9_44
  have fm15_48 : m15 48 = F48 := (funext fun k => gm15 48 k rfl).trans fm9_48
  have fm15_50 : m15 50 = F50 := (funext fun k => gm15 50 k rfl).trans fm9_50
  have fm15_51 : m15 51 = F51 := (funext fun k => gm15 51 k rfl).trans fm9_51
  show zW E (d) 26 56 [(2, 43), (0, a0), (0, x1), (0, x3), (0, r10), (9, 0)] [(0, r16)] m15 Q
  have hc2 := po0_r16
  have hd2 := po1_r16
  rw [he] at hc2
  refine zw_10 (L' := [(2, 43), (0, a0), (0, x1), (0, x3), (0, r10), (0, r16)]) zr_26_56 (Nat.le_of_ble_eq_true rfl) rfl ?_
  refine zw_7 zr_26_58 rfl ?_
  refine zw_3 zr_26_59 rfl ?_
  refine zw_4 zr_26_60 rfl ?_
  refine zw_7 zr_26_62 rfl ?_
  refine zw_46r (s := 1) zr_26_63 rfl rfl rfl rfl ?_
  refine zw_46r (s := 5) zr_26_66 rfl rfl rfl rfl ?_
  refine zw_3 zr_26_69 rfl ?_
  refine zw_48 (c := 5) (len := 60) zr_26_70 rfl rfl (by omega) (by omega) ?_
  intro x17 ex17
  have bx17 := ib_5 hIm15 (k := (a0).toNat) (by omega)
  rw [← ex17] at bx17
  have qx17 : x17 = F5 (a0).toNat := by rw [← fm15_5]; exact ex17
  clear ex17
  have hY := qx17
  refine zw_C zr_26_71 (Or.inl rfl) zm_25 rfl rfl ⟨Nat.le_of_ble_eq_true rfl, Nat.le_of_ble_eq_true rfl, Nat.le_of_ble_eq_true rfl, rfl, by decide⟩ (by omega) (th_25 (d := d - 1) (by omega) hIm15 (a0 := x1) (a1 := r10) (a2 := x17)   (F44 := F44) (F50 := F50) (F51 := F51)  fm15_44 fm15_50 fm15_51 (by omega) (by omega) (by omega) (by first | (have z := (zPb_at hp1 (p := x1) (by omega)).1; have z2 := (zPb_at hp1 (p := x3) (by omega)).1; rw [hs1a]; have w := zPt_w F44 (x1).toNat (x3).toNat (F44 (x1).toNat + r10); omega) | (have z := (zPb_at hp1 (p := x1) (by omega)).1; omega)) (by first | (have z := (zPb_at hp1 (p := x1) (by omega)).2; have z2 := (zPb_at hp1 (p := x3) (by omega)).2; rw [hs1b]; have w := zPt_w F50 (x1).toNat (x3).toNat (F50 (x1).toNat + 1); omega) | (have z := (zPb_at hp1 (p := x1) (by omega)).2; omega))) ?_
  rintro _ m21 ⟨rfl, hIm21, gm21, po0_m21, po1_m21, po2_m21⟩
  have hFm21 : zFr W_26 m0 m21 := hFm15.trans gm21 rfl
  have km21_45_1 : m21 45 1 = g0 := (gm21 45 1 rfl).trans km15_45_1
  have km21_45_8 : m21 45 8 = g1 := (gm21 45 8 rfl).trans km15_45_8
  have km21_1_2 : m21 1 2 = g2 := (gm21 1 2 rfl).trans km15_1_2
  have fm21_5 : m21 5 = F5 := (funext fun k => gm21 5 k rfl).trans fm15_5
  have fm21_6 : m21 6 = F6 := (funext fun k => gm21 6 k rfl).trans fm15_6
  have fm21_7 : m21 7 = F7 := (funext fun k => gm21 7 k rfl).trans fm15_7
  have fm21_8 : m21 8 = F8 := (funext fun k => gm21 8 k rfl).trans fm15_8
  have fm21_10 : m21 10 = F10 := (funext fun k => gm21 10 k rfl).trans fm15_10
  have fm21_11 : m21 11 = F11 := (funext fun k => gm21 11 k rfl).trans fm15_11
  obtain ⟨f22, fm21_44⟩ : ∃ f, m21 44 = f := ⟨_, rfl⟩
  try rw [fm21_44] at po0_m21
  have fm21_48 : m21 48 = F48 := (funext fun k => gm21 48 k rfl).trans fm15_48
  obtain ⟨f23, fm21_50⟩ : ∃ f, m21 50 = f := ⟨_, rfl⟩
  try rw [fm21_50] at po1_m21
  obtain ⟨f24, fm21_51⟩ : ∃ f, m21 51 = f := ⟨_, rfl⟩
  try rw [fm21_51] at po2_m21
  show zW E (d) 26 74 [(2, 43), (0, a0), (0, x1), (0, x3), (0, r10), (0, r16)] [] m21 Q
  have hs1a := po0_m21
  have hs1b := po1_m21
  have hs1c := po2_m21
  refine zw_7 zr_26_74 rfl ?_
  refine zw_3 zr_26_75 rfl ?_
  refine zw_4 zr_26_76 rfl ?_
  refine zw_7 zr_26_78 rfl ?_
  refine zw_46r (s := 1) zr_26_79 rfl rfl rfl rfl ?_
  refine zw_46r (s := 5) zr_26_82 rfl rfl rfl rfl ?_
  refine zw_3 zr_26_85 rfl ?_
  refine zw_48 (c := 5) (len := 60) zr_26_86 rfl rfl (by omega) (by omega) ?_
  intro x25 ex25
  have bx25 := ib_5 hIm21 (k := (a0).toNat) (by omega)
  rw [← ex25] at bx25
  have qx25 : x25 = F5 (a0).toNat := by rw [← fm21_5]; exact ex25
  clear ex25
  have hy : x25 = x17 := qx25.trans hY.symm
  refine zw_C zr_26_87 (Or.inl rfl) zm_25 rfl rfl ⟨Nat.le_of_ble_eq_true rfl, Nat.le_of_ble_eq_true rfl, Nat.le_of_ble_eq_true rfl, rfl, by decide⟩ (by omega) (th_25 (d := d - 1) (by omega) hIm21 (a0 := x3) (a1 := r16) (a2 := x25)   (F44 := f22) (F50 := f23) (F51 := f24)  fm21_44 fm21_50 fm21_51 (by omega) (by omega) (by omega) (by first | (have z := (zPb_at hp1 (p := x1) (by omega)).1; have z2 := (zPb_at hp1 (p := x3) (by omega)).1; rw [hs1a]; have w := zPt_w F44 (x1).toNat (x3).toNat (F44 (x1).toNat + r10); omega) | (have z := (zPb_at hp1 (p := x1) (by omega)).1; omega)) (by first | (have z := (zPb_at hp1 (p := x1) (by omega)).2; have z2 := (zPb_at hp1 (p := x3) (by omega)).2; rw [hs1b]; have w := zPt_w F50 (x1).toNat (x3).toNat (F50 (x1).toNat + 1); omega) | (have z := (zPb_at hp1 (p := x1) (by omega)).2; omega))) ?_
  rintro _ m29 ⟨rfl, hIm29, gm29, po0_m29, po1_m29, po2_m29⟩
  have hFm29 : zFr W_26 m0 m29 := hFm21.trans gm29 rfl
  have km29_45_1 : m29 45 1 = g0 := (gm29 45 1 rfl).trans km21_45_1
  have km29_45_8 : m29 45 8 = g1 := (gm29 45 8 rfl).trans km21_45_8
  have km29_1_2 : m29 1 2 = g2 := (gm29 1 2 rfl).trans km21_1_2
  have fm29_5 : m29 5 = F5 := (funext fun k => gm29 5 k rfl).trans fm21_5
  have fm29_6 : m29 6 = F6 := (funext fun k => gm29 6 k rfl).trans fm21_6
  have fm29_7 : m29 7 = F7 := (funext fun k => gm29 7 k rfl).trans fm21_7
  have fm29_8 : m29 8 = F8 := (funext fun k => gm29 8 k rfl).trans fm21_8
  have fm29_10 : m29 10 = F10 := (funext fun k => gm29 10 k rfl).trans fm21_10
  have fm29_11 : m29 11 = F11 := (funext fun k => gm29 11 k rfl).trans fm21_11
  obtain ⟨f30, fm29_44⟩ : ∃ f, m29 44 = f := ⟨_, rfl⟩
  try rw [fm29_44] at po0_m29
  have fm29_48 : m29 48 = F48 := (funext fun k => gm29 48 k rfl).trans fm21_48
  obtain ⟨f31, fm29_50⟩ : ∃ f, m29 50 = f := ⟨_, rfl⟩
  try rw [fm29_50] at po1_m29
  obtain ⟨f32, fm29_51⟩ : ∃ f, m29 51 = f := ⟨_, rfl⟩
  try rw [fm29_51] at po2_m29
  show zW E (d) 26 90 [(2, 43), (0, a0), (0, x1), (0, x3), (0, r10), (0, r16)] [] m29 Q
  have hs2a := po0_m29
  have hs2b := po1_m29
  have hs2c := po2_m29
  rw [hy] at hs2c
  refine zw_7 zr_26_90 rfl ?_
  refine zw_4 zr_26_91 rfl ?_
  refine zw_4 zr_26_93 rfl ?_
  refine zw_16 zr_26_95 (by omega) ?_
  refine zw_47 (c := 43) zr_26_96 rfl ⟨rfl, by decide, rfl⟩ ?_
  intro m33 em33
  have hIm33 : zInv m33 := by rw [em33]; exact hIm29.any (by omega) rfl (by decide) (by decide)
  have hFm33 : zFr W_26 m0 m33 := by rw [em33]; exact hFm29.up rfl
  have km33_45_1 : m33 45 1 = g0 := by rw [em33, zUp_ne (by omega)]; exact km29_45_1
  have km33_45_8 : m33 45 8 = g1 := by rw [em33, zUp_ne (by omega)]; exact km29_45_8
  have km33_1_2 : m33 1 2 = g2 := by rw [em33, zUp_ne (by omega)]; exact km29_1_2
  have km33_43_5 : m33 43 5 = (r10 + r16) := by rw [em33]; exact zUp_eq _ _ _ _
  have fm33_5 : m33 5 = F5 := by rw [em33, zUp_fn (by decide)]; exact fm29_5
  have fm33_6 : m33 6 = F6 := by rw [em33, zUp_fn (by decide)]; exact fm29_6
  have fm33_7 : m33 7 = F7 := by rw [em33, zUp_fn (by decide)]; exact fm29_7
  have fm33_8 : m33 8 = F8 := by rw [em33, zUp_fn (by decide)]; exact fm29_8
  have fm33_10 : m33 10 = F10 := by rw [em33, zUp_fn (by decide)]; exact fm29_10
  have fm33_11 : m33 11 = F11 := by rw [em33, zUp_fn (by decide)]; exact fm29_11
  have fm33_44 : m33 44 = f30 := by rw [em33, zUp_fn (by decide)]; exact fm29_44
  have fm33_48 : m33 48 = F48 := by rw [em33, zUp_fn (by decide)]; exact fm29_48
  have fm33_50 : m33 50 = f31 := by rw [em33, zUp_fn (by decide)]; exact fm29_50
  have fm33_51 : m33 51 = f32 := by rw [em33, zUp_fn (by decide)]; exact fm29_51
  clear em33
  refine zw_R zr_26_99 (by decide) zm_26 (v := (9, 0)) rfl ?_
  rw [← hQ]; exact ⟨rfl, hIm33, hFm33, by rw [fm33_44, fm33_50, fm33_51, km33_43_5]; exact (zPy_m hA hB hE hY hc1 hc2 hs1a hs1b hs1c hs2a hs2b hs2c rfl), by rw [fm33_44, fm33_50, fm33_51]; exact zPy_b (zPy_m hA hB hE hY hc1 hc2 hs1a hs1b hs1c hs2a hs2b hs2c rfl) hp1 (hc1.trans (by rw [hA, hB, hE])) (hc2.trans (by rw [hA, hB, hE])) (by omega) rfl, by omega⟩

abbrev W_41 : List (Nat × Nat) := [(43, 5), (44, 1000), (45, 9), (46, 1000), (49, 1000), (50, 1000), (51, 1000)]
set_option maxHeartbeats 8000000 in
theorem th_41 {E : zE} {d : Nat} {m0 : zM} {a0 : Int} {g0 : Int} {g1 : Int} {g2 : Int} {gS : Int} {gV : Int} {F5 : Nat → Int} {F6 : Nat → Int} {F7 : Nat → Int} {F8 : Nat → Int} {F10 : Nat → Int} {F11 : Nat → Int} {F44 : Nat → Int} {F48 : Nat → Int} {F50 : Nat → Int} {F51 : Nat → Int} (hd : 6 ≤ d) (hI0 : zInv m0) (hg0 : m0 45 1 = g0) (hg1 : m0 45 8 = g1) (hg2 : m0 1 2 = g2) (hG5 : m0 5 = F5) (hG6 : m0 6 = F6) (hG7 : m0 7 = F7) (hG8 : m0 8 = F8) (hG10 : m0 10 = F10) (hG11 : m0 11 = F11) (hG44 : m0 44 = F44) (hG48 : m0 48 = F48) (hG50 : m0 50 = F50) (hG51 : m0 51 = F51) (ha0 : 0 ≤ a0 ∧ a0 ≤ 60) (hp0 : zPc (chc F11 F10 gS) F48 g1 g0) (hp1 : zSn (pst (chc F11 F10 gS) F6 F7 F8 F5 (zbt g2)) (fun _ => 1) gV (F44, F50, F51) 0) (hp2 : zPb (F44, F50, F51) 0) : zC E d 41 [(2, 43), (0, a0)] m0 (fun v m' => v = (9, 0) ∧ zInv m' ∧ zFr W_41 m0 m' ∧ (zSn (pst (chc F11 F10 gS) F6 F7 F8 F5 (zbt g2)) (fun _ => 1) gV (m' 44, m' 50, m' 51) a0) ∧ (zPb (m' 44, m' 50, m' 51) a0)) := by
  have hF0 : zFr W_41 m0 m0 := zFr.rfl
  have bg0 := hI0.fi (c := 45) (k := 1) rfl
  rw [hg0] at bg0
  have bg1 := ib_45_8 hI0
  rw [hg1] at bg1
  have bg2 := ib_1_2 hI0
  rw [hg2] at bg2
  generalize hQ : (fun (v : zV) (m' : zM) => v = (9, 0) ∧ zInv m' ∧ zFr W_41 m0 m' ∧ (zSn (pst (chc F11 F10 gS) F6 F7 F8 F5 (zbt g2)) (fun _ => 1) gV (m' 44, m' 50, m' 51) a0) ∧ (zPb (m' 44, m' 50, m' 51) a0)) = Q
  show zW E d 41 0 [(2, 43), (0, a0), (9, 0)] [] m0 Q
  refine zw_push zr_41_0 ?_
  refine zw_9 (L' := [(2, 43), (0, a0), (0, 0)]) zr_41_1 (Nat.le_of_ble_eq_true rfl) rfl ?_
  have lp2_6 : ∀ (nlp2_6 : Nat) (i1 : Int) (f3 : Nat → Int) (f4 : Nat → Int) (f5 : Nat → Int) (m2 : zM), zInv m2 → zFr W_41 m0 m2 → m2 45 1 = g0 → m2 45 8 = g1 → m2 1 2 = g2 → m2 5 = F5 → m2 6 = F6 → m2 7 = F7 → m2 8 = F8 → m2 10 = F10 → m2 11 = F11 → m2 44 = f3 → m2 48 = F48 → m2 50 = f4 → m2 51 = f5 → 0 ≤ i1 → i1 ≤ 60 → (zSn (pst (chc F11 F10 gS) F6 F7 F8 F5 (zbt g2)) (fun _ => 1) gV (f3, f4, f5) i1) → (zPb (f3, f4, f5) i1) → (i1 ≤ a0 ∨ i1 = 0) → (60 - i1).toNat < nlp2_6 → zW E (d) 41 2 [(2, 43), (0, a0), (0, i1)] [] m2 Q := by
    intro nlp2_6
    induction nlp2_6 with
    | zero =>
      intros
      exact absurd (by assumption : _ < 0) (Nat.not_lt_zero _)
    | succ nlp2_6 ihlp2_6 =>
      intro i1 f3 f4 f5 m2 hIm2 hFm2 km2_45_1 km2_45_8 km2_1_2 fm2_5 fm2_6 fm2_7 fm2_8 fm2_10 fm2_11 fm2_44 fm2_48 fm2_50 fm2_51 li1 ui1 hv0lp2_6 hv1lp2_6 hv2lp2_6 hmlp2_6
      refine zw_3 zr_41_2 rfl ?_
      refine zw_3 zr_41_3 rfl ?_
      refine zw_41_3 zr_41_4 ?_ ?_
      · intro h8
        refine zw_R zr_41_18 (by decide) zm_41 (v := (9, 0)) rfl ?_
        rw [← hQ]; exact ⟨rfl, hIm2, hFm2, by rw [fm2_44, fm2_50, fm2_51]; have z := hv0lp2_6; rw [show i1 = a0 by omega] at z; exact z, by rw [fm2_44, fm2_50, fm2_51]; have z := hv1lp2_6; rw [show i1 = a0 by omega] at z; exact z⟩
      · intro h11
        refine zw_7 zr_41_7 rfl ?_
        refine zw_3 zr_41_8 rfl ?_
        refine zw_C zr_41_9 (Or.inl rfl) zm_26 rfl rfl ⟨Nat.le_of_ble_eq_true rfl, Nat.le_of_ble_eq_true rfl, Nat.le_of_ble_eq_true rfl, rfl, by decide⟩ (by omega) (th_26 (d := d - 1) (by omega) hIm2 (a0 := i1) (g0 := g0) (g1 := g1) (g2 := g2) (gS := gS) (gN := i1) (F5 := F5) (F6 := F6) (F7 := F7) (F8 := F8) (F10 := F10) (F11 := F11) (F44 := f3) (F48 := F48) (F50 := f4) (F51 := f5) km2_45_1 km2_45_8 km2_1_2 fm2_5 fm2_6 fm2_7 fm2_8 fm2_10 fm2_11 fm2_44 fm2_48 fm2_50 fm2_51 (by omega) (hp0) (hv1lp2_6) (by omega)) ?_
        rintro _ m16 ⟨rfl, hIm16, gm16, po0_m16, po1_m16, po2_m16⟩
        have hFm16 : zFr W_41 m0 m16 := hFm2.trans gm16 rfl
        have km16_45_1 : m16 45 1 = g0 := (gm16 45 1 rfl).trans km2_45_1
        have km16_45_8 : m16 45 8 = g1 := (gm16 45 8 rfl).trans km2_45_8
        have km16_1_2 : m16 1 2 = g2 := (gm16 1 2 rfl).trans km2_1_2
        have fm16_5 : m16 5 = F5 := (funext fun k => gm16 5 k rfl).trans fm2_5
        have fm16_6 : m16 6 = F6 := (funext fun k => gm16 6 k rfl).trans fm2_6
        have fm16_7 : m16 7 = F7 := (funext fun k => gm16 7 k rfl).trans fm2_7
        have fm16_8 : m16 8 = F8 := (funext fun k => gm16 8 k rfl).trans fm2_8
        have fm16_10 : m16 10 = F10 := (funext fun k => gm16 10 k rfl).trans fm2_10
        have fm16_11 : m16 11 = F11 := (funext fun k => gm16 11 k rfl).trans fm2_11
        obtain ⟨f17, fm16_44⟩ : ∃ f, m16 44 = f := ⟨_, rfl⟩
        try rw [fm16_44] at po0_m16
        try rw [fm16_44] at po1_m16
        have fm16_48 : m16 48 = F48 := (funext fun k => gm16 48 k rfl).trans fm2_48
        obtain ⟨f18, fm16_50⟩ : ∃ f, m16 50 = f := ⟨_, rfl⟩
        try rw [fm16_50] at po0_m16
        try rw [fm16_50] at po1_m16
        obtain ⟨f19, fm16_51⟩ : ∃ f, m16 51 = f := ⟨_, rfl⟩
        try rw [fm16_51] at po0_m16
        try rw [fm16_51] at po1_m16
        obtain ⟨f20, ef20⟩ : ∃ v, m16 43 5 = v := ⟨_, rfl⟩
        have bf20 := hIm16.fi (c := 43) (k := 5) rfl
        rw [ef20] at bf20
        rw [ef20] at po0_m16
        rw [ef20] at po2_m16
        show zW E (d) 41 12 [(2, 43), (0, a0), (0, i1)] [] m16 Q
        refine zw_15 (c := 1) (L' := [(2, 43), (0, a0), (0, (i1 + 1))]) zr_41_12 rfl (by decide) (by omega) rfl ?_
        refine zw_42 zr_41_15 ?_
        exact zw_less (L := [(2, 43), (0, a0), (0, (i1 + 1))]) ⟨Or.inr rfl, Or.inr rfl, Or.inr rfl, trivial⟩ (ihlp2_6 ((i1 + 1)) (f17) (f18) (f19) m16 hIm16 hFm16  km16_45_1 km16_45_8 km16_1_2 fm16_5 fm16_6 fm16_7 fm16_8 fm16_10 fm16_11 fm16_44 fm16_48 fm16_50 fm16_51 (by omega) (by omega) (zSn_y hv0lp2_6 po0_m16 (by rfl) (by omega)) (po1_m16) (by omega) (by omega))
  exact lp2_6 _ (0) (F44) (F50) (F51) m0 hI0 hF0  hg0 hg1 hg2 hG5 hG6 hG7 hG8 hG10 hG11 hG44 hG48 hG50 hG51 (by omega) (by omega) (hp1) (hp2) (by omega) (Nat.lt_succ_self _)

abbrev W_109 : List (Nat × Nat) := [(43, 5), (44, 1000), (45, 1), (45, 5), (45, 6), (45, 7), (45, 8), (45, 9), (46, 1000), (47, 1000), (48, 1000), (49, 1000), (50, 1000), (51, 1000)]
set_option maxHeartbeats 8000000 in
theorem th_109 {E : zE} {d : Nat} {m0 : zM} {a0 : Int} {a1 : Int} {a2 : Int} {g0 : Int} {g1 : Int} {g2 : Int} {F5 : Nat → Int} {F6 : Nat → Int} {F7 : Nat → Int} {F8 : Nat → Int} {F10 : Nat → Int} {F11 : Nat → Int} {F44 : Nat → Int} {F48 : Nat → Int} {F50 : Nat → Int} {F51 : Nat → Int} {F9 : Nat → Int} (hd : 95 ≤ d) (hI0 : zInv m0) (hg0 : m0 1 0 = g0) (hg1 : m0 1 1 = g1) (hg2 : m0 1 2 = g2) (hG5 : m0 5 = F5) (hG6 : m0 6 = F6) (hG7 : m0 7 = F7) (hG8 : m0 8 = F8) (hG10 : m0 10 = F10) (hG11 : m0 11 = F11) (hG44 : m0 44 = F44) (hG48 : m0 48 = F48) (hG50 : m0 50 = F50) (hG51 : m0 51 = F51) (hG9 : m0 9 = F9) (ha0 : (-2147483648) ≤ a0 ∧ a0 ≤ 2147483647) (ha1 : (-2147483648) ≤ a1 ∧ a1 ≤ 2147483647) (ha2 : (-2147483648) ≤ a2 ∧ a2 ≤ 2147483647) : zC E d 109 [(2, 0), (0, a0), (0, a1), (0, a2)] m0 (fun v m' => ∃ r : Int, v = (0, r) ∧ (-2147483648) ≤ r ∧ r ≤ 2147483647 ∧ zInv m' ∧ zFr W_109 m0 m' ∧ ((r = -100000 ∧ (a0 < 0 ∨ 3 < a0 ∨ a1 < 0 ∨ g0 ≤ a1 ∨ a2 < 0 ∨ g1 < a2)) ∨ ((0 ≤ a0 ∧ a0 ≤ 3 ∧ 0 ≤ a1 ∧ a1 < g0 ∧ 0 ≤ a2 ∧ a2 ≤ g1) ∧ ∃ S, zSn (pst (chc F11 F10 a0) F6 F7 F8 F5 (zbt g2)) (fun _ => 1) (F9 a0.toNat) S a2 ∧ r = S.1 a1.toNat))) := by
  have hF0 : zFr W_109 m0 m0 := zFr.rfl
  have bg0 := ib_1_0 hI0
  rw [hg0] at bg0
  have bg1 := ib_1_1 hI0
  rw [hg1] at bg1
  have bg2 := ib_1_2 hI0
  rw [hg2] at bg2
  generalize hQ : (fun (v : zV) (m' : zM) => ∃ r : Int, v = (0, r) ∧ (-2147483648) ≤ r ∧ r ≤ 2147483647 ∧ zInv m' ∧ zFr W_109 m0 m' ∧ ((r = -100000 ∧ (a0 < 0 ∨ 3 < a0 ∨ a1 < 0 ∨ g0 ≤ a1 ∨ a2 < 0 ∨ g1 < a2)) ∨ ((0 ≤ a0 ∧ a0 ≤ 3 ∧ 0 ≤ a1 ∧ a1 < g0 ∧ 0 ≤ a2 ∧ a2 ≤ g1) ∧ ∃ S, zSn (pst (chc F11 F10 a0) F6 F7 F8 F5 (zbt g2)) (fun _ => 1) (F9 a0.toNat) S a2 ∧ r = S.1 a1.toNat))) = Q
  show zW E d 109 0 [(2, 0), (0, a0), (0, a1), (0, a2)] [] m0 Q
  refine zw_3 zr_109_0 rfl ?_
  refine zw_C zr_109_1 (Or.inr rfl) zm_104 rfl rfl ⟨Nat.le_of_ble_eq_true rfl, Nat.le_of_ble_eq_true rfl, Nat.le_of_ble_eq_true rfl, rfl, by decide⟩ (by omega) (P := (fun v m' => zW E (d) 109 4 [(2, 0), (0, a0), (0, a1), (0, a2)] (if v.1 = 9 then [] else v :: []) m' Q)) ?_ (fun _ _ h => h)
  generalize hQ1 : (fun v m' => zW E (d) 109 4 [(2, 0), (0, a0), (0, a1), (0, a2)] (if v.1 = 9 then [] else v :: []) m' Q) = Q1
  show zW E (d - 1) 104 0 [(0, a0)] [] m0 Q1
  refine zw_3 zr_104_0 rfl ?_
  refine zw_push zr_104_1 ?_
  refine zw_push zr_104_2 ?_
  refine zw_C zr_104_3 (Or.inr rfl) zm_100 rfl rfl ⟨Nat.le_of_ble_eq_true rfl, Nat.le_of_ble_eq_true rfl, Nat.le_of_ble_eq_true rfl, rfl, by decide⟩ (by omega) (P := (fun v m' => zW E (d - 1) 104 6 [(0, a0)] (if v.1 = 9 then [] else v :: []) m' Q1)) ?_ (fun _ _ h => h)
  generalize hQ2 : (fun v m' => zW E (d - 1) 104 6 [(0, a0)] (if v.1 = 9 then [] else v :: []) m' Q1) = Q2
  show zW E (d - 1 - 1) 100 0 [(0, a0), (0, 0), (0, 3)] [] m0 Q2
  refine zw_3 zr_100_0 rfl ?_
  refine zw_3 zr_100_1 rfl ?_
  refine zw_41_0 zr_100_2 ?_ ?_
  · intro h1
    refine zw_push zr_100_14 ?_
    refine zw_R zr_100_15 (by decide) zm_100 (v := (0, 0)) (zRetB (by omega)) ?_
    rw [← hQ2]
    show zW E (d - 1) 104 6 [(0, a0)] [(0, 0)] m0 Q1
    refine zw_R zr_104_6 (by decide) zm_104 (v := (0, 0)) (zRetB (by omega)) ?_
    rw [← hQ1]
    show zW E (d) 109 4 [(2, 0), (0, a0), (0, a1), (0, a2)] [(0, 0)] m0 Q
    refine zw_40_1 zr_109_4 ?_ ?_
    · intro h2
      refine zw_push zr_109_33 ?_
      refine zw_R zr_109_35 (by decide) zm_109 (v := (0, (-100000))) rfl ?_
      rw [← hQ]; exact ⟨_, rfl, by omega, by omega, hI0, hF0, by first | exact Or.inr ⟨by omega, _, zz, qzz⟩ | exact Or.inl ⟨rfl, by omega⟩⟩
    · intro h4; omega
  · intro h5
    refine zw_3 zr_100_5 rfl ?_
    refine zw_3 zr_100_6 rfl ?_
    refine zw_41_2 zr_100_7 ?_ ?_
    · intro h6
      refine zw_push zr_100_14 ?_
      refine zw_R zr_100_15 (by decide) zm_100 (v := (0, 0)) (zRetB (by omega)) ?_
      rw [← hQ2]
      show zW E (d - 1) 104 6 [(0, a0)] [(0, 0)] m0 Q1
      refine zw_R zr_104_6 (by decide) zm_104 (v := (0, 0)) (zRetB (by omega)) ?_
      rw [← hQ1]
      show zW E (d) 109 4 [(2, 0), (0, a0), (0, a1), (0, a2)] [(0, 0)] m0 Q
      refine zw_40_1 zr_109_4 ?_ ?_
      · intro h7
        refine zw_push zr_109_33 ?_
        refine zw_R zr_109_35 (by decide) zm_109 (v := (0, (-100000))) rfl ?_
        rw [← hQ]; exact ⟨_, rfl, by omega, by omega, hI0, hF0, by first | exact Or.inr ⟨by omega, _, zz, qzz⟩ | exact Or.inl ⟨rfl, by omega⟩⟩
      · intro h9; omega
    · intro h10
      refine zw_push zr_100_10 ?_
      refine zw_42 zr_100_11 ?_
      refine zw_R zr_100_15 (by decide) zm_100 (v := (0, 1)) (zRetB (by omega)) ?_
      rw [← hQ2]
      show zW E (d - 1) 104 6 [(0, a0)] [(0, 1)] m0 Q1
      refine zw_R zr_104_6 (by decide) zm_104 (v := (0, 1)) (zRetB (by omega)) ?_
      rw [← hQ1]
      show zW E (d) 109 4 [(2, 0), (0, a0), (0, a1), (0, a2)] [(0, 1)] m0 Q
      refine zw_40_1 zr_109_4 ?_ ?_
      · intro h11; omega
      · intro h12
        refine zw_7 zr_109_7 rfl ?_
        refine zw_46r (s := 1) zr_109_8 rfl rfl rfl rfl ?_
        refine zw_3 zr_109_11 rfl ?_
        refine zw_C zr_109_12 (Or.inl rfl) zm_49 rfl rfl ⟨Nat.le_of_ble_eq_true rfl, Nat.le_of_ble_eq_true rfl, Nat.le_of_ble_eq_true rfl, rfl, by decide⟩ (by omega) (P := (fun v m' => zW E (d) 109 15 [(2, 0), (0, a0), (0, a1), (0, a2)] (if v.1 = 9 then [] else v :: []) m' Q)) ?_ (fun _ _ h => h)
        generalize hQ1 : (fun v m' => zW E (d) 109 15 [(2, 0), (0, a0), (0, a1), (0, a2)] (if v.1 = 9 then [] else v :: []) m' Q) = Q1
        show zW E (d - 1) 49 0 [(2, 1), (0, a1)] [] m0 Q1
        refine zw_3 zr_49_0 rfl ?_
        refine zw_40_0 zr_49_1 ?_ ?_
        · intro h13
          refine zw_push zr_49_16 ?_
          refine zw_R zr_49_17 (by decide) zm_49 (v := (0, 0)) (zRetB (by omega)) ?_
          rw [← hQ1]
          show zW E (d) 109 15 [(2, 0), (0, a0), (0, a1), (0, a2)] [(0, 0)] m0 Q
          refine zw_40_1 zr_109_15 ?_ ?_
          · intro h14
            refine zw_push zr_109_33 ?_
            refine zw_R zr_109_35 (by decide) zm_109 (v := (0, (-100000))) rfl ?_
            rw [← hQ]; exact ⟨_, rfl, by omega, by omega, hI0, hF0, by first | exact Or.inr ⟨by omega, _, zz, qzz⟩ | exact Or.inl ⟨rfl, by omega⟩⟩
          · intro h16; omega
        · intro h17
          refine zw_3 zr_49_4 rfl ?_
          refine zw_7 zr_49_5 rfl ?_
          refine zw_46i zr_49_6 hg0 rfl rfl rfl ?_
          refine zw_41_3 zr_49_9 ?_ ?_
          · intro h18
            refine zw_push zr_49_16 ?_
            refine zw_R zr_49_17 (by decide) zm_49 (v := (0, 0)) (zRetB (by omega)) ?_
            rw [← hQ1]
            show zW E (d) 109 15 [(2, 0), (0, a0), (0, a1), (0, a2)] [(0, 0)] m0 Q
            refine zw_40_1 zr_109_15 ?_ ?_
            · intro h19
              refine zw_push zr_109_33 ?_
              refine zw_R zr_109_35 (by decide) zm_109 (v := (0, (-100000))) rfl ?_
              rw [← hQ]; exact ⟨_, rfl, by omega, by omega, hI0, hF0, by first | exact Or.inr ⟨by omega, _, zz, qzz⟩ | exact Or.inl ⟨rfl, by omega⟩⟩
            · intro h21; omega
          · intro h22
            refine zw_push zr_49_12 ?_
            refine zw_42 zr_49_13 ?_
            refine zw_R zr_49_17 (by decide) zm_49 (v := (0, 1)) (zRetB (by omega)) ?_
            rw [← hQ1]
            show zW E (d) 109 15 [(2, 0), (0, a0), (0, a1), (0, a2)] [(0, 1)] m0 Q
            refine zw_40_1 zr_109_15 ?_ ?_
            · intro h23; omega
            · intro h24
              refine zw_3 zr_109_18 rfl ?_
              refine zw_push zr_109_19 ?_
              refine zw_7 zr_109_20 rfl ?_
              refine zw_46r (s := 1) zr_109_21 rfl rfl rfl rfl ?_
              refine zw_46i zr_109_24 hg1 rfl rfl rfl ?_
              refine zw_C zr_109_27 (Or.inr rfl) zm_100 rfl rfl ⟨Nat.le_of_ble_eq_true rfl, Nat.le_of_ble_eq_true rfl, Nat.le_of_ble_eq_true rfl, rfl, by decide⟩ (by omega) (P := (fun v m' => zW E (d) 109 30 [(2, 0), (0, a0), (0, a1), (0, a2)] (if v.1 = 9 then [] else v :: []) m' Q)) ?_ (fun _ _ h => h)
              generalize hQ1 : (fun v m' => zW E (d) 109 30 [(2, 0), (0, a0), (0, a1), (0, a2)] (if v.1 = 9 then [] else v :: []) m' Q) = Q1
              show zW E (d - 1) 100 0 [(0, a2), (0, 0), (0, g1)] [] m0 Q1
              refine zw_3 zr_100_0 rfl ?_
              refine zw_3 zr_100_1 rfl ?_
              refine zw_41_0 zr_100_2 ?_ ?_
              · intro h25
                refine zw_push zr_100_14 ?_
                refine zw_R zr_100_15 (by decide) zm_100 (v := (0, 0)) (zRetB (by omega)) ?_
                rw [← hQ1]
                show zW E (d) 109 30 [(2, 0), (0, a0), (0, a1), (0, a2)] [(0, 0)] m0 Q
                refine zw_40_4 zr_109_30 ?_ ?_
                · intro h26; omega
                · intro h27
                  refine zw_push zr_109_33 ?_
                  refine zw_R zr_109_35 (by decide) zm_109 (v := (0, (-100000))) rfl ?_
                  rw [← hQ]; exact ⟨_, rfl, by omega, by omega, hI0, hF0, by first | exact Or.inr ⟨by omega, _, zz, qzz⟩ | exact Or.inl ⟨rfl, by omega⟩⟩
              · intro h29
                refine zw_3 zr_100_5 rfl ?_
                refine zw_3 zr_100_6 rfl ?_
                refine zw_41_2 zr_100_7 ?_ ?_
                · intro h30
                  refine zw_push zr_100_14 ?_
                  refine zw_R zr_100_15 (by decide) zm_100 (v := (0, 0)) (zRetB (by omega)) ?_
                  rw [← hQ1]
                  show zW E (d) 109 30 [(2, 0), (0, a0), (0, a1), (0, a2)] [(0, 0)] m0 Q
                  refine zw_40_4 zr_109_30 ?_ ?_
                  · intro h31; omega
                  · intro h32
                    refine zw_push zr_109_33 ?_
                    refine zw_R zr_109_35 (by decide) zm_109 (v := (0, (-100000))) rfl ?_
                    rw [← hQ]; exact ⟨_, rfl, by omega, by omega, hI0, hF0, by first | exact Or.inr ⟨by omega, _, zz, qzz⟩ | exact Or.inl ⟨rfl, by omega⟩⟩
                · intro h34
                  refine zw_push zr_100_10 ?_
                  refine zw_42 zr_100_11 ?_
                  refine zw_R zr_100_15 (by decide) zm_100 (v := (0, 1)) (zRetB (by omega)) ?_
                  rw [← hQ1]
                  show zW E (d) 109 30 [(2, 0), (0, a0), (0, a1), (0, a2)] [(0, 1)] m0 Q
                  refine zw_40_4 zr_109_30 ?_ ?_
                  · intro h35
                    refine zw_7 zr_109_36 rfl ?_
                    refine zw_46r (s := 43) zr_109_37 rfl rfl rfl rfl ?_
                    refine zw_3 zr_109_40 rfl ?_
                    refine zw_C zr_109_41 (Or.inl rfl) zm_16 rfl rfl ⟨Nat.le_of_ble_eq_true rfl, Nat.le_of_ble_eq_true rfl, Nat.le_of_ble_eq_true rfl, rfl, by decide⟩ (by omega) (th_16 (d := d - 1) (by omega) hI0 (a0 := a0)   (F9 := F9) (F10 := F10) (F11 := F11) (F44 := F44) (F48 := F48) (F50 := F50) (F51 := F51)  hG9 hG10 hG11 hG44 hG48 hG50 hG51 (by omega) ) ?_
                    rintro _ m36 ⟨rfl, hIm36, gm36, po0_m36, po1_m36⟩
                    have hFm36 : zFr W_109 m0 m36 := hF0.trans gm36 rfl
                    have km36_1_0 : m36 1 0 = g0 := (gm36 1 0 rfl).trans hg0
                    have km36_1_1 : m36 1 1 = g1 := (gm36 1 1 rfl).trans hg1
                    have km36_1_2 : m36 1 2 = g2 := (gm36 1 2 rfl).trans hg2
                    have fm36_5 : m36 5 = F5 := (funext fun k => gm36 5 k rfl).trans hG5
                    have fm36_6 : m36 6 = F6 := (funext fun k => gm36 6 k rfl).trans hG6
                    have fm36_7 : m36 7 = F7 := (funext fun k => gm36 7 k rfl).trans hG7
                    have fm36_8 : m36 8 = F8 := (funext fun k => gm36 8 k rfl).trans hG8
                    have fm36_10 : m36 10 = F10 := (funext fun k => gm36 10 k rfl).trans hG10
                    have fm36_11 : m36 11 = F11 := (funext fun k => gm36 11 k rfl).trans hG11
                    obtain ⟨f37, fm36_44⟩ : ∃ f, m36 44 = f := ⟨_, rfl⟩
                    try rw [fm36_44] at po1_m36
                    obtain ⟨f38, fm36_48⟩ : ∃ f, m36 48 = f := ⟨_, rfl⟩
                    try rw [fm36_48] at po0_m36
                    obtain ⟨f39, fm36_50⟩ : ∃ f, m36 50 = f := ⟨_, rfl⟩
                    try rw [fm36_50] at po1_m36
                    obtain ⟨f40, fm36_51⟩ : ∃ f, m36 51 = f := ⟨_, rfl⟩
                    try rw [fm36_51] at po1_m36
                    have fm36_9 : m36 9 = F9 := (funext fun k => gm36 9 k rfl).trans hG9
                    obtain ⟨f41, ef41⟩ : ∃ v, m36 45 1 = v := ⟨_, rfl⟩
                    have bf41 := hIm36.fi (c := 45) (k := 1) rfl
                    rw [ef41] at bf41
                    rw [ef41] at po0_m36
                    obtain ⟨f42, ef42⟩ : ∃ v, m36 45 8 = v := ⟨_, rfl⟩
                    have bf42 := ib_45_8 hIm36
                    rw [ef42] at bf42
                    rw [ef42] at po0_m36
                    show zW E (d) 109 44 [(2, 0), (0, a0), (0, a1), (0, a2)] [] m36 Q
                    refine zw_7 zr_109_44 rfl ?_
                    refine zw_46r (s := 43) zr_109_45 rfl rfl rfl rfl ?_
                    refine zw_3 zr_109_48 rfl ?_
                    refine zw_C zr_109_49 (Or.inl rfl) zm_41 rfl rfl ⟨Nat.le_of_ble_eq_true rfl, Nat.le_of_ble_eq_true rfl, Nat.le_of_ble_eq_true rfl, rfl, by decide⟩ (by omega) (th_41 (d := d - 1) (by omega) hIm36 (a0 := a2) (g0 := f41) (g1 := f42) (g2 := g2) (gS := a0) (gV := F9 a0.toNat) (F5 := F5) (F6 := F6) (F7 := F7) (F8 := F8) (F10 := F10) (F11 := F11) (F44 := f37) (F48 := f38) (F50 := f39) (F51 := f40) ef41 ef42 km36_1_2 fm36_5 fm36_6 fm36_7 fm36_8 fm36_10 fm36_11 fm36_44 fm36_48 fm36_50 fm36_51 (by omega) (po0_m36) (zSn_0 po1_m36 rfl) (zPb_0 po1_m36 (by have z := ib_9 hI0 (k := a0.toNat) (by omega); rw [hG9] at z; omega))) ?_
                    rintro _ m48 ⟨rfl, hIm48, gm48, po0_m48, po1_m48⟩
                    have hFm48 : zFr W_109 m0 m48 := hFm36.trans gm48 rfl
                    have km48_1_0 : m48 1 0 = g0 := (gm48 1 0 rfl).trans km36_1_0
                    have km48_1_1 : m48 1 1 = g1 := (gm48 1 1 rfl).trans km36_1_1
                    have km48_1_2 : m48 1 2 = g2 := (gm48 1 2 rfl).trans km36_1_2
                    have km48_45_1 : m48 45 1 = f41 := (gm48 45 1 rfl).trans ef41
                    have km48_45_8 : m48 45 8 = f42 := (gm48 45 8 rfl).trans ef42
                    have fm48_5 : m48 5 = F5 := (funext fun k => gm48 5 k rfl).trans fm36_5
                    have fm48_6 : m48 6 = F6 := (funext fun k => gm48 6 k rfl).trans fm36_6
                    have fm48_7 : m48 7 = F7 := (funext fun k => gm48 7 k rfl).trans fm36_7
                    have fm48_8 : m48 8 = F8 := (funext fun k => gm48 8 k rfl).trans fm36_8
                    have fm48_10 : m48 10 = F10 := (funext fun k => gm48 10 k rfl).trans fm36_10
                    have fm48_11 : m48 11 = F11 := (funext fun k => gm48 11 k rfl).trans fm36_11
                    obtain ⟨f49, fm48_44⟩ : ∃ f, m48 44 = f := ⟨_, rfl⟩
                    try rw [fm48_44] at po0_m48
                    try rw [fm48_44] at po1_m48
                    have fm48_48 : m48 48 = f38 := (funext fun k => gm48 48 k rfl).trans fm36_48
                    obtain ⟨f50, fm48_50⟩ : ∃ f, m48 50 = f := ⟨_, rfl⟩
                    try rw [fm48_50] at po0_m48
                    try rw [fm48_50] at po1_m48
                    obtain ⟨f51, fm48_51⟩ : ∃ f, m48 51 = f := ⟨_, rfl⟩
                    try rw [fm48_51] at po0_m48
                    try rw [fm48_51] at po1_m48
                    have fm48_9 : m48 9 = F9 := (funext fun k => gm48 9 k rfl).trans fm36_9
                    show zW E (d) 109 52 [(2, 0), (0, a0), (0, a1), (0, a2)] [] m48 Q
                    refine zw_7 zr_109_52 rfl ?_
                    refine zw_46r (s := 43) zr_109_53 rfl rfl rfl rfl ?_
                    refine zw_46r (s := 44) zr_109_56 rfl rfl rfl rfl ?_
                    refine zw_3 zr_109_59 rfl ?_
                    refine zw_48 (c := 44) (len := 10) zr_109_60 rfl rfl (by omega) (by omega) ?_
                    intro x52 ex52
                    have bx52 := hIm48.ra (c := 44) (len := 10) (k := (a1).toNat) rfl (by omega)
                    rw [← ex52] at bx52
                    have qx52 : x52 = f49 (a1).toNat := by rw [← fm48_44]; exact ex52
                    clear ex52
                    refine zw_R zr_109_61 (by decide) zm_109 (v := (0, x52)) rfl ?_
                    rw [← hQ]; exact ⟨_, rfl, by omega, by omega, hIm48, hFm48, by first | exact Or.inr ⟨by omega, _, po0_m48, qx52⟩ | exact Or.inl ⟨rfl, by omega⟩⟩
                  · intro h54; omega

abbrev W_164 : List (Nat × Nat) := [(76, 1000), (77, 1000), (78, 1000)]
set_option maxHeartbeats 8000000 in
theorem th_164 {E : zE} {d : Nat} {m0 : zM} {a0 : Int} {F70 : Nat → Int} {F76 : Nat → Int} {F77 : Nat → Int} {F78 : Nat → Int} (hd : 1 ≤ d) (hI0 : zInv m0) (hG70 : m0 70 = F70) (hG76 : m0 76 = F76) (hG77 : m0 77 = F77) (hG78 : m0 78 = F78) (ha0 : 0 ≤ a0 ∧ a0 ≤ 3) : zC E d 164 [(2, 69), (0, a0)] m0 (fun v m' => v = (9, 0) ∧ zInv m' ∧ zFr W_164 m0 m' ∧ (zR0 (m' 76, m' 77, m' 78) (F70 (450 + 52 * a0).toNat))) := by
  have hF0 : zFr W_164 m0 m0 := zFr.rfl
  generalize hQ : (fun (v : zV) (m' : zM) => v = (9, 0) ∧ zInv m' ∧ zFr W_164 m0 m' ∧ (zR0 (m' 76, m' 77, m' 78) (F70 (450 + 52 * a0).toNat))) = Q
  show zW E d 164 0 [(2, 69), (0, a0), (9, 0)] [] m0 Q
  refine zw_push zr_164_0 ?_
  refine zw_9 (L' := [(2, 69), (0, a0), (0, 0)]) zr_164_1 (Nat.le_of_ble_eq_true rfl) rfl ?_
  have lp2_6 : ∀ (nlp2_6 : Nat) (i1 : Int) (f3 : Nat → Int) (f4 : Nat → Int) (f5 : Nat → Int) (m2 : zM), zInv m2 → zFr W_164 m0 m2 → m2 70 = F70 → m2 76 = f3 → m2 77 = f4 → m2 78 = f5 → 0 ≤ i1 → i1 ≤ 10 → (zRb f3 f4 f5 i1 (F70 (450 + 52 * a0).toNat)) → (10 - i1).toNat < nlp2_6 → zW E (d) 164 2 [(2, 69), (0, a0), (0, i1)] [] m2 Q := by
    intro nlp2_6
    induction nlp2_6 with
    | zero =>
      intros
      exact absurd (by assumption : _ < 0) (Nat.not_lt_zero _)
    | succ nlp2_6 ihlp2_6 =>
      intro i1 f3 f4 f5 m2 hIm2 hFm2 fm2_70 fm2_76 fm2_77 fm2_78 li1 ui1 hv0lp2_6 hmlp2_6
      refine zw_3 zr_164_2 rfl ?_
      refine zw_push zr_164_3 ?_
      refine zw_41_3 zr_164_5 ?_ ?_
      · intro h8
        refine zw_R zr_164_47 (by decide) zm_164 (v := (9, 0)) rfl ?_
        rw [← hQ]; exact ⟨rfl, hIm2, hFm2, by rw [fm2_76, fm2_77, fm2_78]; exact zRb_e hv0lp2_6 (by omega)⟩
      · intro h10
        refine zw_7 zr_164_8 rfl ?_
        refine zw_46r (s := 76) zr_164_9 rfl rfl rfl rfl ?_
        refine zw_3 zr_164_12 rfl ?_
        refine zw_7 zr_164_13 rfl ?_
        refine zw_46r (s := 70) zr_164_14 rfl rfl rfl rfl ?_
        refine zw_push zr_164_17 ?_
        refine zw_push zr_164_20 ?_
        refine zw_3 zr_164_22 rfl ?_
        refine zw_18 zr_164_23 (by omega) ?_
        refine zw_16 zr_164_24 (by omega) ?_
        refine zw_48 (c := 70) (len := 826) zr_164_25 rfl rfl (by omega) (by omega) ?_
        intro x11 ex11
        have bx11 := ib_70_s0 hIm2 (k := ((450 + (52 * a0))).toNat) (by omega)
        rw [← ex11] at bx11
        have qx11 : x11 = F70 ((450 + (52 * a0))).toNat := by rw [← fm2_70]; exact ex11
        clear ex11
        refine zw_49 (c := 76) (len := 10) zr_164_26 rfl rfl (by omega) (by omega) ?_
        intro m12 em12
        have hIm12 : zInv m12 := by rw [em12]; exact hIm2.any (by omega) rfl (by decide) (by decide)
        have hFm12 : zFr W_164 m0 m12 := by rw [em12]; exact hFm2.any rfl
        have fm12_70 : m12 70 = F70 := by rw [em12, zUp_fn (by decide)]; exact fm2_70
        have fm12_76 : m12 76 = zPt f3 ((i1).toNat) x11 := by rw [em12]; exact (zUp_ff (m := m2)).trans (congrArg (fun q => zPt q ((i1).toNat) x11) fm2_76)
        have fm12_77 : m12 77 = f4 := by rw [em12, zUp_fn (by decide)]; exact fm2_77
        have fm12_78 : m12 78 = f5 := by rw [em12, zUp_fn (by decide)]; exact fm2_78
        clear em12
        refine zw_7 zr_164_27 rfl ?_
        refine zw_46r (s := 77) zr_164_28 rfl rfl rfl rfl ?_
        refine zw_3 zr_164_31 rfl ?_
        refine zw_push zr_164_32 ?_
        refine zw_49 (c := 77) (len := 10) zr_164_33 rfl rfl (by omega) (by omega) ?_
        intro m13 em13
        have hIm13 : zInv m13 := by rw [em13]; exact hIm12.any (by omega) rfl (by decide) (by decide)
        have hFm13 : zFr W_164 m0 m13 := by rw [em13]; exact hFm12.any rfl
        have fm13_70 : m13 70 = F70 := by rw [em13, zUp_fn (by decide)]; exact fm12_70
        have fm13_76 : m13 76 = zPt f3 ((i1).toNat) x11 := by rw [em13, zUp_fn (by decide)]; exact fm12_76
        have fm13_77 : m13 77 = zPt f4 ((i1).toNat) 0 := by rw [em13]; exact (zUp_ff (m := m12)).trans (congrArg (fun q => zPt q ((i1).toNat) 0) fm12_77)
        have fm13_78 : m13 78 = f5 := by rw [em13, zUp_fn (by decide)]; exact fm12_78
        clear em13
        refine zw_7 zr_164_34 rfl ?_
        refine zw_46r (s := 78) zr_164_35 rfl rfl rfl rfl ?_
        refine zw_3 zr_164_38 rfl ?_
        refine zw_push zr_164_39 ?_
        refine zw_49 (c := 78) (len := 10) zr_164_40 rfl rfl (by omega) (by omega) ?_
        intro m14 em14
        have hIm14 : zInv m14 := by rw [em14]; exact iu_78 hIm13 (by omega)
        have hFm14 : zFr W_164 m0 m14 := by rw [em14]; exact hFm13.any rfl
        have fm14_70 : m14 70 = F70 := by rw [em14, zUp_fn (by decide)]; exact fm13_70
        have fm14_76 : m14 76 = zPt f3 ((i1).toNat) x11 := by rw [em14, zUp_fn (by decide)]; exact fm13_76
        have fm14_77 : m14 77 = zPt f4 ((i1).toNat) 0 := by rw [em14, zUp_fn (by decide)]; exact fm13_77
        have fm14_78 : m14 78 = zPt f5 ((i1).toNat) ((-1)) := by rw [em14]; exact (zUp_ff (m := m13)).trans (congrArg (fun q => zPt q ((i1).toNat) ((-1))) fm13_78)
        clear em14
        refine zw_15 (c := 1) (L' := [(2, 69), (0, a0), (0, (i1 + 1))]) zr_164_41 rfl (by decide) (by omega) rfl ?_
        refine zw_42 zr_164_44 ?_
        exact zw_less (L := [(2, 69), (0, a0), (0, (i1 + 1))]) ⟨Or.inr rfl, Or.inr rfl, Or.inr rfl, trivial⟩ (ihlp2_6 ((i1 + 1)) (zPt f3 ((i1).toNat) x11) (zPt f4 ((i1).toNat) 0) (zPt f5 ((i1).toNat) ((-1))) m14 hIm14 hFm14   fm14_70 fm14_76 fm14_77 fm14_78 (by omega) (by omega) (zRb_s hv0lp2_6 qx11 rfl rfl rfl (by omega)) (by omega))
  exact lp2_6 _ (0) (F76) (F77) (F78) m0 hI0 hF0  hG70 hG76 hG77 hG78 (by omega) (by omega) (zRb_0) (Nat.lt_succ_self _)

abbrev W_165 : List (Nat × Nat) := [(69, 6), (69, 7), (69, 9), (69, 11), (69, 13), (73, 1000), (74, 1000), (75, 1000)]
set_option maxHeartbeats 8000000 in
theorem th_165 {E : zE} {d : Nat} {m0 : zM} {a0 : Int} {a1 : Int} {a2 : Int} {a3 : Int} {g0 : Int} {F70 : Nat → Int} {F75 : Nat → Int} {F76 : Nat → Int} {F77 : Nat → Int} {F78 : Nat → Int} (hd : 4 ≤ d) (hI0 : zInv m0) (hg0 : m0 69 5 = g0) (hG70 : m0 70 = F70) (hG75 : m0 75 = F75) (hG76 : m0 76 = F76) (hG77 : m0 77 = F77) (hG78 : m0 78 = F78) (ha0 : 0 ≤ a0 ∧ a0 ≤ 59) (ha1 : 0 ≤ a1 ∧ a1 ≤ 9) (ha2 : 0 ≤ a2 ∧ a2 ≤ 9) (ha3 : 0 ≤ a3 ∧ a3 ≤ 2) : zC E d 165 [(2, 69), (0, a0), (0, a1), (0, a2), (0, a3)] m0 (fun v m' => ∃ r : Int, v = (0, r) ∧ (-500) ≤ r ∧ r ≤ 500 ∧ zInv m' ∧ zFr W_165 m0 m' ∧ (r = cgr (cht F70 g0) (fun i => F70 (90 + 6 * i)) (fun i => F70 (94 + 6 * i)) (F76, F77, F78) a0.toNat a1 a2 a3) ∧ (-500 ≤ r ∧ r ≤ 500)) := by
  have hF0 : zFr W_165 m0 m0 := zFr.rfl
  have bg0 := ib_69_5 hI0
  rw [hg0] at bg0
  generalize hQ : (fun (v : zV) (m' : zM) => ∃ r : Int, v = (0, r) ∧ (-500) ≤ r ∧ r ≤ 500 ∧ zInv m' ∧ zFr W_165 m0 m' ∧ (r = cgr (cht F70 g0) (fun i => F70 (90 + 6 * i)) (fun i => F70 (94 + 6 * i)) (F76, F77, F78) a0.toNat a1 a2 a3) ∧ (-500 ≤ r ∧ r ≤ 500)) = Q
  show zW E d 165 0 [(2, 69), (0, a0), (0, a1), (0, a2), (0, a3)] [] m0 Q
  refine zw_7 zr_165_0 rfl ?_
  refine zw_46r (s := 75) zr_165_1 rfl rfl rfl rfl ?_
  refine zw_push zr_165_4 ?_
  refine zw_7 zr_165_5 rfl ?_
  refine zw_46r (s := 76) zr_165_6 rfl rfl rfl rfl ?_
  refine zw_3 zr_165_9 rfl ?_
  refine zw_48 (c := 76) (len := 10) zr_165_10 rfl rfl (by omega) (by omega) ?_
  intro x1 ex1
  have bx1 := hI0.ra (c := 76) (len := 10) (k := (a1).toNat) rfl (by omega)
  rw [← ex1] at bx1
  have qx1 : x1 = F76 (a1).toNat := by rw [← hG76]; exact ex1
  clear ex1
  have ha := qx1
  refine zw_36 zr_165_11 ?_
  refine zw_51 (c := 75) (len := 6) zr_165_12 rfl rfl (by omega) (by omega) ?_
  intro m3 em3
  have hIm3 : zInv m3 := by rw [em3]; exact hI0.anyl (by omega) (zK3 rfl) rfl (by decide) (by decide)
  have hFm3 : zFr W_165 m0 m3 := by rw [em3]; exact hF0.any rfl
  have km3_69_5 : m3 69 5 = g0 := by rw [em3, zUp_ne (by omega)]; exact hg0
  have fm3_70 : m3 70 = F70 := by rw [em3, zUp_fn (by decide)]; exact hG70
  have fm3_75 : m3 75 = zPt F75 0 x1 := by rw [em3]; exact (zUp_ff (m := m0)).trans (congrArg (fun q => zPt q 0 x1) hG75)
  have fm3_76 : m3 76 = F76 := by rw [em3, zUp_fn (by decide)]; exact hG76
  have fm3_77 : m3 77 = F77 := by rw [em3, zUp_fn (by decide)]; exact hG77
  have fm3_78 : m3 78 = F78 := by rw [em3, zUp_fn (by decide)]; exact hG78
  clear em3
  refine zw_7 zr_165_13 rfl ?_
  refine zw_46r (s := 75) zr_165_14 rfl rfl rfl rfl ?_
  refine zw_push zr_165_17 ?_
  refine zw_7 zr_165_18 rfl ?_
  refine zw_46r (s := 76) zr_165_19 rfl rfl rfl rfl ?_
  refine zw_3 zr_165_22 rfl ?_
  refine zw_48 (c := 76) (len := 10) zr_165_23 rfl rfl (by omega) (by omega) ?_
  intro x4 ex4
  have bx4 := hIm3.ra (c := 76) (len := 10) (k := (a2).toNat) rfl (by omega)
  rw [← ex4] at bx4
  have qx4 : x4 = F76 (a2).toNat := by rw [← fm3_76]; exact ex4
  clear ex4
  have hb := qx4
  refine zw_36 zr_165_24 ?_
  refine zw_51 (c := 75) (len := 6) zr_165_25 rfl rfl (by omega) (by omega) ?_
  intro m6 em6
  have hIm6 : zInv m6 := by rw [em6]; exact hIm3.anyl (by omega) (zK3 rfl) rfl (by decide) (by decide)
  have hFm6 : zFr W_165 m0 m6 := by rw [em6]; exact hFm3.any rfl
  have km6_69_5 : m6 69 5 = g0 := by rw [em6, zUp_ne (by omega)]; exact km3_69_5
  have fm6_70 : m6 70 = F70 := by rw [em6, zUp_fn (by decide)]; exact fm3_70
  have fm6_75 : m6 75 = zPt (zPt F75 0 x1) 1 x4 := by rw [em6]; exact (zUp_ff (m := m3)).trans (congrArg (fun q => zPt q 1 x4) fm3_75)
  have fm6_76 : m6 76 = F76 := by rw [em6, zUp_fn (by decide)]; exact fm3_76
  have fm6_77 : m6 77 = F77 := by rw [em6, zUp_fn (by decide)]; exact fm3_77
  have fm6_78 : m6 78 = F78 := by rw [em6, zUp_fn (by decide)]; exact fm3_78
  clear em6
  refine zw_7 zr_165_26 rfl ?_
  refine zw_46r (s := 75) zr_165_27 rfl rfl rfl rfl ?_
  refine zw_push zr_165_30 ?_
  refine zw_4 zr_165_31 rfl ?_
  refine zw_36 zr_165_33 ?_
  refine zw_51 (c := 75) (len := 6) zr_165_34 rfl rfl (by omega) (by omega) ?_
  intro m7 em7
  have hIm7 : zInv m7 := by rw [em7]; exact hIm6.anyl (by omega) (zK3 rfl) rfl (by decide) (by decide)
  have hFm7 : zFr W_165 m0 m7 := by rw [em7]; exact hFm6.any rfl
  have km7_69_5 : m7 69 5 = g0 := by rw [em7, zUp_ne (by omega)]; exact km6_69_5
  have fm7_70 : m7 70 = F70 := by rw [em7, zUp_fn (by decide)]; exact fm6_70
  have fm7_75 : m7 75 = zPt (zPt (zPt F75 0 x1) 1 x4) 2 a3 := by rw [em7]; exact (zUp_ff (m := m6)).trans (congrArg (fun q => zPt q 2 a3) fm6_75)
  have fm7_76 : m7 76 = F76 := by rw [em7, zUp_fn (by decide)]; exact fm6_76
  have fm7_77 : m7 77 = F77 := by rw [em7, zUp_fn (by decide)]; exact fm6_77
  have fm7_78 : m7 78 = F78 := by rw [em7, zUp_fn (by decide)]; exact fm6_78
  clear em7
  refine zw_7 zr_165_35 rfl ?_
  refine zw_46r (s := 75) zr_165_36 rfl rfl rfl rfl ?_
  refine zw_push zr_165_39 ?_
  refine zw_7 zr_165_40 rfl ?_
  refine zw_46r (s := 77) zr_165_41 rfl rfl rfl rfl ?_
  refine zw_3 zr_165_44 rfl ?_
  refine zw_48 (c := 77) (len := 10) zr_165_45 rfl rfl (by omega) (by omega) ?_
  intro x8 ex8
  have bx8 := hIm7.ra (c := 77) (len := 10) (k := (a1).toNat) rfl (by omega)
  rw [← ex8] at bx8
  have qx8 : x8 = F77 (a1).toNat := by rw [← fm7_77]; exact ex8
  clear ex8
  have hm := qx8
  refine zw_36 zr_165_46 ?_
  refine zw_51 (c := 75) (len := 6) zr_165_47 rfl rfl (by omega) (by omega) ?_
  intro m10 em10
  have hIm10 : zInv m10 := by rw [em10]; exact hIm7.anyl (by omega) (zK3 rfl) rfl (by decide) (by decide)
  have hFm10 : zFr W_165 m0 m10 := by rw [em10]; exact hFm7.any rfl
  have km10_69_5 : m10 69 5 = g0 := by rw [em10, zUp_ne (by omega)]; exact km7_69_5
  have fm10_70 : m10 70 = F70 := by rw [em10, zUp_fn (by decide)]; exact fm7_70
  have fm10_75 : m10 75 = zPt (zPt (zPt (zPt F75 0 x1) 1 x4) 2 a3) 3 x8 := by rw [em10]; exact (zUp_ff (m := m7)).trans (congrArg (fun q => zPt q 3 x8) fm7_75)
  have fm10_76 : m10 76 = F76 := by rw [em10, zUp_fn (by decide)]; exact fm7_76
  have fm10_77 : m10 77 = F77 := by rw [em10, zUp_fn (by decide)]; exact fm7_77
  have fm10_78 : m10 78 = F78 := by rw [em10, zUp_fn (by decide)]; exact fm7_78
  clear em10
  refine zw_7 zr_165_48 rfl ?_
  refine zw_46r (s := 75) zr_165_49 rfl rfl rfl rfl ?_
  refine zw_push zr_165_52 ?_
  refine zw_7 zr_165_53 rfl ?_
  refine zw_46r (s := 78) zr_165_54 rfl rfl rfl rfl ?_
  refine zw_3 zr_165_57 rfl ?_
  refine zw_48 (c := 78) (len := 10) zr_165_58 rfl rfl (by omega) (by omega) ?_
  intro x11 ex11
  have bx11 := ib_78 hIm10 (k := (a1).toNat) (by omega)
  rw [← ex11] at bx11
  have qx11 : x11 = F78 (a1).toNat := by rw [← fm10_78]; exact ex11
  refine zw_push zr_165_59 ?_
  have hl := qx11
  refine zw_41_4 zr_165_60 ?_ ?_
  · intro h13
    refine zw_7 zr_165_67 rfl ?_
    refine zw_3 zr_165_68 rfl ?_
    refine zw_push zr_165_69 ?_
    refine zw_C zr_165_70 (Or.inl rfl) zm_144 rfl rfl ⟨Nat.le_of_ble_eq_true rfl, Nat.le_of_ble_eq_true rfl, Nat.le_of_ble_eq_true rfl, rfl, by decide⟩ (by omega) (P := (fun v m' => zW E (d) 165 73 [(2, 69), (0, a0), (0, a1), (0, a2), (0, a3)] (if v.1 = 9 then [(0, 4), (2, 75)] else v :: [(0, 4), (2, 75)]) m' Q)) ?_ (fun _ _ h => h)
    generalize hQ1 : (fun v m' => zW E (d) 165 73 [(2, 69), (0, a0), (0, a1), (0, a2), (0, a3)] (if v.1 = 9 then [(0, 4), (2, 75)] else v :: [(0, 4), (2, 75)]) m' Q) = Q1
    show zW E (d - 1) 144 0 [(2, 69), (0, a0), (0, 0)] [] m10 Q1
    refine zw_7 zr_144_0 rfl ?_
    refine zw_46r (s := 70) zr_144_1 rfl rfl rfl rfl ?_
    refine zw_push zr_144_4 ?_
    refine zw_push zr_144_6 ?_
    refine zw_3 zr_144_8 rfl ?_
    refine zw_18 zr_144_9 (by omega) ?_
    refine zw_16 zr_144_10 (by omega) ?_
    refine zw_3 zr_144_11 rfl ?_
    refine zw_16 zr_144_12 (by omega) ?_
    refine zw_48 (c := 70) (len := 826) zr_144_13 rfl rfl (by omega) (by omega) ?_
    intro x14 ex14
    have bx14 := ib_70_m0 hIm10 (k := (((90 + (6 * a0)) + 0)).toNat) (by omega)
    rw [← ex14] at bx14
    have qx14 : x14 = F70 (((90 + (6 * a0)) + 0)).toNat := by rw [← fm10_70]; exact ex14
    clear ex14
    refine zw_R zr_144_14 (by decide) zm_144 (v := (0, x14)) rfl ?_
    rw [← hQ1]
    show zW E (d) 165 73 [(2, 69), (0, a0), (0, a1), (0, a2), (0, a3)] [(0, x14), (0, 4), (2, 75)] m10 Q
    refine zw_7 zr_165_73 rfl ?_
    refine zw_46r (s := 78) zr_165_74 rfl rfl rfl rfl ?_
    refine zw_3 zr_165_77 rfl ?_
    refine zw_48k (c := 78) (len := 10) zr_165_78 rfl rfl (by omega) (by omega) rfl ex11.symm ?_
    have hy : x14 = F70 (90 + 6 * a0.toNat) := qx14.trans (congrArg F70 (by omega))
    have hl2 := qx11
    refine zw_17 zr_165_79 (by omega) ?_
    refine zw_36 zr_165_80 ?_
    refine zw_51 (c := 75) (len := 6) zr_165_81 rfl rfl (by omega) (by omega) ?_
    intro m17 em17
    have hIm17 : zInv m17 := by rw [em17]; exact hIm10.anyl (by omega) (zK3 rfl) rfl (by decide) (by decide)
    have hFm17 : zFr W_165 m0 m17 := by rw [em17]; exact hFm10.any rfl
    have km17_69_5 : m17 69 5 = g0 := by rw [em17, zUp_ne (by omega)]; exact km10_69_5
    have fm17_70 : m17 70 = F70 := by rw [em17, zUp_fn (by decide)]; exact fm10_70
    have fm17_75 : m17 75 = zPt (zPt (zPt (zPt (zPt F75 0 x1) 1 x4) 2 a3) 3 x8) 4 ((x14 - x11)) := by rw [em17]; exact (zUp_ff (m := m10)).trans (congrArg (fun q => zPt q 4 ((x14 - x11))) fm10_75)
    have fm17_76 : m17 76 = F76 := by rw [em17, zUp_fn (by decide)]; exact fm10_76
    have fm17_77 : m17 77 = F77 := by rw [em17, zUp_fn (by decide)]; exact fm10_77
    have fm17_78 : m17 78 = F78 := by rw [em17, zUp_fn (by decide)]; exact fm10_78
    clear em17
    refine zw_7 zr_165_82 rfl ?_
    refine zw_46r (s := 75) zr_165_83 rfl rfl rfl rfl ?_
    refine zw_push zr_165_86 ?_
    refine zw_7 zr_165_87 rfl ?_
    refine zw_3 zr_165_88 rfl ?_
    refine zw_push zr_165_89 ?_
    refine zw_C zr_165_90 (Or.inl rfl) zm_144 rfl rfl ⟨Nat.le_of_ble_eq_true rfl, Nat.le_of_ble_eq_true rfl, Nat.le_of_ble_eq_true rfl, rfl, by decide⟩ (by omega) (P := (fun v m' => zW E (d) 165 93 [(2, 69), (0, a0), (0, a1), (0, a2), (0, a3)] (if v.1 = 9 then [(0, 5), (2, 75)] else v :: [(0, 5), (2, 75)]) m' Q)) ?_ (fun _ _ h => h)
    generalize hQ1 : (fun v m' => zW E (d) 165 93 [(2, 69), (0, a0), (0, a1), (0, a2), (0, a3)] (if v.1 = 9 then [(0, 5), (2, 75)] else v :: [(0, 5), (2, 75)]) m' Q) = Q1
    show zW E (d - 1) 144 0 [(2, 69), (0, a0), (0, 4)] [] m17 Q1
    refine zw_7 zr_144_0 rfl ?_
    refine zw_46r (s := 70) zr_144_1 rfl rfl rfl rfl ?_
    refine zw_push zr_144_4 ?_
    refine zw_push zr_144_6 ?_
    refine zw_3 zr_144_8 rfl ?_
    refine zw_18 zr_144_9 (by omega) ?_
    refine zw_16 zr_144_10 (by omega) ?_
    refine zw_3 zr_144_11 rfl ?_
    refine zw_16 zr_144_12 (by omega) ?_
    refine zw_48 (c := 70) (len := 826) zr_144_13 rfl rfl (by omega) (by omega) ?_
    intro x18 ex18
    have bx18 := ib_70_m4 hIm17 (k := (((90 + (6 * a0)) + 4)).toNat) (by omega)
    rw [← ex18] at bx18
    have qx18 : x18 = F70 (((90 + (6 * a0)) + 4)).toNat := by rw [← fm17_70]; exact ex18
    clear ex18
    refine zw_R zr_144_14 (by decide) zm_144 (v := (0, x18)) rfl ?_
    rw [← hQ1]
    show zW E (d) 165 93 [(2, 69), (0, a0), (0, a1), (0, a2), (0, a3)] [(0, x18), (0, 5), (2, 75)] m17 Q
    have hv : x18 = F70 (94 + 6 * a0.toNat) := qx18.trans (congrArg F70 (by omega))
    refine zw_36 zr_165_93 ?_
    refine zw_51 (c := 75) (len := 6) zr_165_94 rfl rfl (by omega) (by omega) ?_
    intro m20 em20
    have hIm20 : zInv m20 := by rw [em20]; exact hIm17.anyl (by omega) (zK3 rfl) rfl (by decide) (by decide)
    have hFm20 : zFr W_165 m0 m20 := by rw [em20]; exact hFm17.any rfl
    have km20_69_5 : m20 69 5 = g0 := by rw [em20, zUp_ne (by omega)]; exact km17_69_5
    have fm20_70 : m20 70 = F70 := by rw [em20, zUp_fn (by decide)]; exact fm17_70
    have fm20_75 : m20 75 = zPt (zPt (zPt (zPt (zPt (zPt F75 0 x1) 1 x4) 2 a3) 3 x8) 4 ((x14 - x11))) 5 x18 := by rw [em20]; exact (zUp_ff (m := m17)).trans (congrArg (fun q => zPt q 5 x18) fm17_75)
    have fm20_76 : m20 76 = F76 := by rw [em20, zUp_fn (by decide)]; exact fm17_76
    have fm20_77 : m20 77 = F77 := by rw [em20, zUp_fn (by decide)]; exact fm17_77
    have fm20_78 : m20 78 = F78 := by rw [em20, zUp_fn (by decide)]; exact fm17_78
    clear em20
    refine zw_7 zr_165_95 rfl ?_
    refine zw_C zr_165_96 (Or.inl rfl) zm_161 rfl rfl ⟨Nat.le_of_ble_eq_true rfl, Nat.le_of_ble_eq_true rfl, Nat.le_of_ble_eq_true rfl, rfl, by decide⟩ (by omega) (th_161 (d := d - 1) (by omega) hIm20  (g0 := g0)  (F70 := F70) (F73 := m20 73) (F74 := m20 74) (F75 := zPt (zPt (zPt (zPt (zPt (zPt F75 0 x1) 1 x4) 2 a3) 3 x8) 4 ((x14 - x11))) 5 x18) km20_69_5 fm20_70 rfl rfl fm20_75  ) ?_
    rintro _ m21 ⟨r22, rfl, hr22a, hr22b, hIm21, gm21, po0_r22, po1_r22⟩
    have hFm21 : zFr W_165 m0 m21 := hFm20.trans gm21 rfl
    have km21_69_5 : m21 69 5 = g0 := (gm21 69 5 rfl).trans km20_69_5
    have fm21_70 : m21 70 = F70 := (funext fun k => gm21 70 k rfl).trans fm20_70
    have fm21_75 : m21 75 = zPt (zPt (zPt (zPt (zPt (zPt F75 0 x1) 1 x4) 2 a3) 3 x8) 4 ((x14 - x11))) 5 x18 := (funext fun k => gm21 75 k rfl).trans fm20_75
    have fm21_76 : m21 76 = F76 := (funext fun k => gm21 76 k rfl).trans fm20_76
    have fm21_77 : m21 77 = F77 := (funext fun k => gm21 77 k rfl).trans fm20_77
    have fm21_78 : m21 78 = F78 := (funext fun k => gm21 78 k rfl).trans fm20_78
    obtain ⟨f23, ef23⟩ : ∃ v, m21 69 7 = v := ⟨_, rfl⟩
    have bf23 := hIm21.fi (c := 69) (k := 7) rfl
    rw [ef23] at bf23
    rw [ef23] at po0_r22
    rw [ef23] at po1_r22
    obtain ⟨f24, ef24⟩ : ∃ v, m21 69 13 = v := ⟨_, rfl⟩
    have bf24 := hIm21.fl (c := 69) (k := 13) rfl
    rw [ef24] at bf24
    rw [ef24] at po0_r22
    show zW E (d) 165 99 [(2, 69), (0, a0), (0, a1), (0, a2), (0, a3)] [(0, r22)] m21 Q
    refine zw_40_4 zr_165_99 ?_ ?_
    · intro h25
      refine zw_7 zr_165_104 rfl ?_
      refine zw_46l zr_165_105 ef24 rfl rfl rfl ?_
      refine zw_push zr_165_108 ?_
      refine zw_39_3 zr_165_111 zr_165_112 ?_ ?_
      · intro h26
        refine zw_7 zr_165_121 rfl ?_
        refine zw_46l zr_165_122 ef24 rfl rfl rfl ?_
        refine zw_push zr_165_125 ?_
        refine zw_39_5 zr_165_128 zr_165_129 ?_ ?_
        · intro h27
          refine zw_7 zr_165_138 rfl ?_
          refine zw_46l zr_165_139 ef24 rfl rfl rfl ?_
          refine zw_37x zr_165_142 (by omega) ?_
          refine zw_R zr_165_143 (by decide) zm_165 (v := (0, f24)) rfl ?_
          rw [← hQ]; exact ⟨_, rfl, by omega, by omega, hIm21, hFm21, by first | exact cgr_e (zCg_r po0_r22 po1_r22 (by exact ⟨rfl, rfl, rfl, rfl, rfl, rfl⟩) (by omega)) ha hb hm hl (Or.inl ⟨by omega, rfl, hy⟩) hv | exact cgr_e (y := 0) (zCg_r po0_r22 po1_r22 (by exact ⟨rfl, rfl, rfl, rfl, rfl, rfl⟩) (by omega)) ha hb hm hl (Or.inr ⟨by omega, rfl⟩) hv, by omega⟩
        · intro h30
          refine zw_push zr_165_132 ?_
          refine zw_42 zr_165_135 ?_
          refine zw_37x zr_165_142 (by omega) ?_
          refine zw_R zr_165_143 (by decide) zm_165 (v := (0, 500)) rfl ?_
          rw [← hQ]; exact ⟨_, rfl, by omega, by omega, hIm21, hFm21, by first | exact cgr_e (zCg_r po0_r22 po1_r22 (by exact ⟨rfl, rfl, rfl, rfl, rfl, rfl⟩) (by omega)) ha hb hm hl (Or.inl ⟨by omega, rfl, hy⟩) hv | exact cgr_e (y := 0) (zCg_r po0_r22 po1_r22 (by exact ⟨rfl, rfl, rfl, rfl, rfl, rfl⟩) (by omega)) ha hb hm hl (Or.inr ⟨by omega, rfl⟩) hv, by omega⟩
      · intro h33
        refine zw_push zr_165_115 ?_
        refine zw_42 zr_165_118 ?_
        refine zw_37x zr_165_142 (by omega) ?_
        refine zw_R zr_165_143 (by decide) zm_165 (v := (0, (-500))) rfl ?_
        rw [← hQ]; exact ⟨_, rfl, by omega, by omega, hIm21, hFm21, by first | exact cgr_e (zCg_r po0_r22 po1_r22 (by exact ⟨rfl, rfl, rfl, rfl, rfl, rfl⟩) (by omega)) ha hb hm hl (Or.inl ⟨by omega, rfl, hy⟩) hv | exact cgr_e (y := 0) (zCg_r po0_r22 po1_r22 (by exact ⟨rfl, rfl, rfl, rfl, rfl, rfl⟩) (by omega)) ha hb hm hl (Or.inr ⟨by omega, rfl⟩) hv, by omega⟩
    · intro h36
      refine zw_push zr_165_102 ?_
      refine zw_R zr_165_103 (by decide) zm_165 (v := (0, 0)) rfl ?_
      rw [← hQ]; exact ⟨_, rfl, by omega, by omega, hIm21, hFm21, by first | exact cgr_e (zCg_r po0_r22 po1_r22 (by exact ⟨rfl, rfl, rfl, rfl, rfl, rfl⟩) (by omega)) ha hb hm hl (Or.inl ⟨by omega, rfl, hy⟩) hv | exact cgr_e (y := 0) (zCg_r po0_r22 po1_r22 (by exact ⟨rfl, rfl, rfl, rfl, rfl, rfl⟩) (by omega)) ha hb hm hl (Or.inr ⟨by omega, rfl⟩) hv, by omega⟩
  · intro h39
    refine zw_push zr_165_63 ?_
    refine zw_42 zr_165_64 ?_
    refine zw_51 (c := 75) (len := 6) zr_165_81 rfl rfl (by omega) (by omega) ?_
    intro m40 em40
    have hIm40 : zInv m40 := by rw [em40]; exact hIm10.anyl (by omega) (zK3 rfl) rfl (by decide) (by decide)
    have hFm40 : zFr W_165 m0 m40 := by rw [em40]; exact hFm10.any rfl
    have km40_69_5 : m40 69 5 = g0 := by rw [em40, zUp_ne (by omega)]; exact km10_69_5
    have fm40_70 : m40 70 = F70 := by rw [em40, zUp_fn (by decide)]; exact fm10_70
    have fm40_75 : m40 75 = zPt (zPt (zPt (zPt (zPt F75 0 x1) 1 x4) 2 a3) 3 x8) 4 0 := by rw [em40]; exact (zUp_ff (m := m10)).trans (congrArg (fun q => zPt q 4 0) fm10_75)
    have fm40_76 : m40 76 = F76 := by rw [em40, zUp_fn (by decide)]; exact fm10_76
    have fm40_77 : m40 77 = F77 := by rw [em40, zUp_fn (by decide)]; exact fm10_77
    have fm40_78 : m40 78 = F78 := by rw [em40, zUp_fn (by decide)]; exact fm10_78
    clear em40
    refine zw_7 zr_165_82 rfl ?_
    refine zw_46r (s := 75) zr_165_83 rfl rfl rfl rfl ?_
    refine zw_push zr_165_86 ?_
    refine zw_7 zr_165_87 rfl ?_
    refine zw_3 zr_165_88 rfl ?_
    refine zw_push zr_165_89 ?_
    refine zw_C zr_165_90 (Or.inl rfl) zm_144 rfl rfl ⟨Nat.le_of_ble_eq_true rfl, Nat.le_of_ble_eq_true rfl, Nat.le_of_ble_eq_true rfl, rfl, by decide⟩ (by omega) (P := (fun v m' => zW E (d) 165 93 [(2, 69), (0, a0), (0, a1), (0, a2), (0, a3)] (if v.1 = 9 then [(0, 5), (2, 75)] else v :: [(0, 5), (2, 75)]) m' Q)) ?_ (fun _ _ h => h)
    generalize hQ1 : (fun v m' => zW E (d) 165 93 [(2, 69), (0, a0), (0, a1), (0, a2), (0, a3)] (if v.1 = 9 then [(0, 5), (2, 75)] else v :: [(0, 5), (2, 75)]) m' Q) = Q1
    show zW E (d - 1) 144 0 [(2, 69), (0, a0), (0, 4)] [] m40 Q1
    refine zw_7 zr_144_0 rfl ?_
    refine zw_46r (s := 70) zr_144_1 rfl rfl rfl rfl ?_
    refine zw_push zr_144_4 ?_
    refine zw_push zr_144_6 ?_
    refine zw_3 zr_144_8 rfl ?_
    refine zw_18 zr_144_9 (by omega) ?_
    refine zw_16 zr_144_10 (by omega) ?_
    refine zw_3 zr_144_11 rfl ?_
    refine zw_16 zr_144_12 (by omega) ?_
    refine zw_48 (c := 70) (len := 826) zr_144_13 rfl rfl (by omega) (by omega) ?_
    intro x41 ex41
    have bx41 := ib_70_m4 hIm40 (k := (((90 + (6 * a0)) + 4)).toNat) (by omega)
    rw [← ex41] at bx41
    have qx41 : x41 = F70 (((90 + (6 * a0)) + 4)).toNat := by rw [← fm40_70]; exact ex41
    clear ex41
    refine zw_R zr_144_14 (by decide) zm_144 (v := (0, x41)) rfl ?_
    rw [← hQ1]
    show zW E (d) 165 93 [(2, 69), (0, a0), (0, a1), (0, a2), (0, a3)] [(0, x41), (0, 5), (2, 75)] m40 Q
    have hv : x41 = F70 (94 + 6 * a0.toNat) := qx41.trans (congrArg F70 (by omega))
    refine zw_36 zr_165_93 ?_
    refine zw_51 (c := 75) (len := 6) zr_165_94 rfl rfl (by omega) (by omega) ?_
    intro m43 em43
    have hIm43 : zInv m43 := by rw [em43]; exact hIm40.anyl (by omega) (zK3 rfl) rfl (by decide) (by decide)
    have hFm43 : zFr W_165 m0 m43 := by rw [em43]; exact hFm40.any rfl
    have km43_69_5 : m43 69 5 = g0 := by rw [em43, zUp_ne (by omega)]; exact km40_69_5
    have fm43_70 : m43 70 = F70 := by rw [em43, zUp_fn (by decide)]; exact fm40_70
    have fm43_75 : m43 75 = zPt (zPt (zPt (zPt (zPt (zPt F75 0 x1) 1 x4) 2 a3) 3 x8) 4 0) 5 x41 := by rw [em43]; exact (zUp_ff (m := m40)).trans (congrArg (fun q => zPt q 5 x41) fm40_75)
    have fm43_76 : m43 76 = F76 := by rw [em43, zUp_fn (by decide)]; exact fm40_76
    have fm43_77 : m43 77 = F77 := by rw [em43, zUp_fn (by decide)]; exact fm40_77
    have fm43_78 : m43 78 = F78 := by rw [em43, zUp_fn (by decide)]; exact fm40_78
    clear em43
    refine zw_7 zr_165_95 rfl ?_
    refine zw_C zr_165_96 (Or.inl rfl) zm_161 rfl rfl ⟨Nat.le_of_ble_eq_true rfl, Nat.le_of_ble_eq_true rfl, Nat.le_of_ble_eq_true rfl, rfl, by decide⟩ (by omega) (th_161 (d := d - 1) (by omega) hIm43  (g0 := g0)  (F70 := F70) (F73 := m43 73) (F74 := m43 74) (F75 := zPt (zPt (zPt (zPt (zPt (zPt F75 0 x1) 1 x4) 2 a3) 3 x8) 4 0) 5 x41) km43_69_5 fm43_70 rfl rfl fm43_75  ) ?_
    rintro _ m44 ⟨r45, rfl, hr45a, hr45b, hIm44, gm44, po0_r45, po1_r45⟩
    have hFm44 : zFr W_165 m0 m44 := hFm43.trans gm44 rfl
    have km44_69_5 : m44 69 5 = g0 := (gm44 69 5 rfl).trans km43_69_5
    have fm44_70 : m44 70 = F70 := (funext fun k => gm44 70 k rfl).trans fm43_70
    have fm44_75 : m44 75 = zPt (zPt (zPt (zPt (zPt (zPt F75 0 x1) 1 x4) 2 a3) 3 x8) 4 0) 5 x41 := (funext fun k => gm44 75 k rfl).trans fm43_75
    have fm44_76 : m44 76 = F76 := (funext fun k => gm44 76 k rfl).trans fm43_76
    have fm44_77 : m44 77 = F77 := (funext fun k => gm44 77 k rfl).trans fm43_77
    have fm44_78 : m44 78 = F78 := (funext fun k => gm44 78 k rfl).trans fm43_78
    obtain ⟨f46, ef46⟩ : ∃ v, m44 69 7 = v := ⟨_, rfl⟩
    have bf46 := hIm44.fi (c := 69) (k := 7) rfl
    rw [ef46] at bf46
    rw [ef46] at po0_r45
    rw [ef46] at po1_r45
    obtain ⟨f47, ef47⟩ : ∃ v, m44 69 13 = v := ⟨_, rfl⟩
    have bf47 := hIm44.fl (c := 69) (k := 13) rfl
    rw [ef47] at bf47
    rw [ef47] at po0_r45
    show zW E (d) 165 99 [(2, 69), (0, a0), (0, a1), (0, a2), (0, a3)] [(0, r45)] m44 Q
    refine zw_40_4 zr_165_99 ?_ ?_
    · intro h48
      refine zw_7 zr_165_104 rfl ?_
      refine zw_46l zr_165_105 ef47 rfl rfl rfl ?_
      refine zw_push zr_165_108 ?_
      refine zw_39_3 zr_165_111 zr_165_112 ?_ ?_
      · intro h49
        refine zw_7 zr_165_121 rfl ?_
        refine zw_46l zr_165_122 ef47 rfl rfl rfl ?_
        refine zw_push zr_165_125 ?_
        refine zw_39_5 zr_165_128 zr_165_129 ?_ ?_
        · intro h50
          refine zw_7 zr_165_138 rfl ?_
          refine zw_46l zr_165_139 ef47 rfl rfl rfl ?_
          refine zw_37x zr_165_142 (by omega) ?_
          refine zw_R zr_165_143 (by decide) zm_165 (v := (0, f47)) rfl ?_
          rw [← hQ]; exact ⟨_, rfl, by omega, by omega, hIm44, hFm44, by first | exact cgr_e (zCg_r po0_r45 po1_r45 (by exact ⟨rfl, rfl, rfl, rfl, rfl, rfl⟩) (by omega)) ha hb hm hl (Or.inl ⟨by omega, rfl, hy⟩) hv | exact cgr_e (y := 0) (zCg_r po0_r45 po1_r45 (by exact ⟨rfl, rfl, rfl, rfl, rfl, rfl⟩) (by omega)) ha hb hm hl (Or.inr ⟨by omega, rfl⟩) hv, by omega⟩
        · intro h53
          refine zw_push zr_165_132 ?_
          refine zw_42 zr_165_135 ?_
          refine zw_37x zr_165_142 (by omega) ?_
          refine zw_R zr_165_143 (by decide) zm_165 (v := (0, 500)) rfl ?_
          rw [← hQ]; exact ⟨_, rfl, by omega, by omega, hIm44, hFm44, by first | exact cgr_e (zCg_r po0_r45 po1_r45 (by exact ⟨rfl, rfl, rfl, rfl, rfl, rfl⟩) (by omega)) ha hb hm hl (Or.inl ⟨by omega, rfl, hy⟩) hv | exact cgr_e (y := 0) (zCg_r po0_r45 po1_r45 (by exact ⟨rfl, rfl, rfl, rfl, rfl, rfl⟩) (by omega)) ha hb hm hl (Or.inr ⟨by omega, rfl⟩) hv, by omega⟩
      · intro h56
        refine zw_push zr_165_115 ?_
        refine zw_42 zr_165_118 ?_
        refine zw_37x zr_165_142 (by omega) ?_
        refine zw_R zr_165_143 (by decide) zm_165 (v := (0, (-500))) rfl ?_
        rw [← hQ]; exact ⟨_, rfl, by omega, by omega, hIm44, hFm44, by first | exact cgr_e (zCg_r po0_r45 po1_r45 (by exact ⟨rfl, rfl, rfl, rfl, rfl, rfl⟩) (by omega)) ha hb hm hl (Or.inl ⟨by omega, rfl, hy⟩) hv | exact cgr_e (y := 0) (zCg_r po0_r45 po1_r45 (by exact ⟨rfl, rfl, rfl, rfl, rfl, rfl⟩) (by omega)) ha hb hm hl (Or.inr ⟨by omega, rfl⟩) hv, by omega⟩
    · intro h59
      refine zw_push zr_165_102 ?_
      refine zw_R zr_165_103 (by decide) zm_165 (v := (0, 0)) rfl ?_
      rw [← hQ]; exact ⟨_, rfl, by omega, by omega, hIm44, hFm44, by first | exact cgr_e (zCg_r po0_r45 po1_r45 (by exact ⟨rfl, rfl, rfl, rfl, rfl, rfl⟩) (by omega)) ha hb hm hl (Or.inl ⟨by omega, rfl, hy⟩) hv | exact cgr_e (y := 0) (zCg_r po0_r45 po1_r45 (by exact ⟨rfl, rfl, rfl, rfl, rfl, rfl⟩) (by omega)) ha hb hm hl (Or.inr ⟨by omega, rfl⟩) hv, by omega⟩
