abbrev W_162 : List (Nat × Nat) := [(69, 5), (69, 6), (69, 7), (69, 9), (69, 11), (69, 13), (73, 1000), (74, 1000)]
set_option maxHeartbeats 8000000 in
theorem th_162 {E : zE} {d : Nat} {m0 : zM} {a0 : Int} (hd : 4 ≤ d) (hI0 : zInv m0) (ha0 : 0 ≤ a0 ∧ a0 ≤ 3) : zC E d 162 [(2, 69), (0, a0)] m0 (fun v m' => ∃ r : Int, v = (0, r) ∧ 0 ≤ r ∧ r ≤ 1 ∧ zInv m' ∧ zFr W_162 m0 m') := by
  have hF0 : zFr W_162 m0 m0 := zFr.rfl
  generalize hQ : (fun (v : zV) (m' : zM) => ∃ r : Int, v = (0, r) ∧ 0 ≤ r ∧ r ≤ 1 ∧ zInv m' ∧ zFr W_162 m0 m') = Q
  show zW E d 162 0 [(2, 69), (0, a0)] [] m0 Q
  refine zw_7 zr_162_0 rfl ?_
  refine zw_3 zr_162_1 rfl ?_
  refine zw_47 (c := 69) zr_162_2 rfl ⟨rfl, by decide, rfl⟩ ?_
  intro m1 em1
  have hIm1 : zInv m1 := by rw [em1]; exact hI0.bd (r := 69) (k := 5) (lo := 0) (hi := 3) rfl (by omega) (by decide) (by decide) (by decide)
  have hFm1 : zFr W_162 m0 m1 := by rw [em1]; exact hF0.up rfl
  have km1_69_5 : m1 69 5 = a0 := by rw [em1]; exact zUp_eq _ _ _ _
  clear em1
  refine zw_7 zr_162_5 rfl ?_
  refine zw_C zr_162_6 (Or.inl rfl) zm_161 rfl rfl ⟨Nat.le_of_ble_eq_true rfl, Nat.le_of_ble_eq_true rfl, Nat.le_of_ble_eq_true rfl, rfl, by decide⟩ (by omega) (th_161 (d := d - 1) (by omega) hIm1    (F74 := m1 74)  rfl  ) ?_
  rintro _ m2 ⟨r3, rfl, hr3a, hr3b, hIm2, gm2⟩
  have hFm2 : zFr W_162 m0 m2 := hFm1.trans gm2 rfl
  have km2_69_5 : m2 69 5 = a0 := (gm2 69 5 rfl).trans km1_69_5
  show zW E (d) 162 9 [(2, 69), (0, a0)] [(0, r3)] m2 Q
  refine zw_R zr_162_9 (by decide) zm_162 (v := (0, r3)) (zRetB (by omega)) ?_
  rw [← hQ]; exact ⟨_, rfl, by omega, by omega, hIm2, hFm2⟩

abbrev W_163 : List (Nat × Nat) := [(69, 5), (69, 6), (69, 7), (69, 9), (69, 11), (69, 13), (73, 1000), (74, 1000)]
set_option maxHeartbeats 8000000 in
theorem th_163 {E : zE} {d : Nat} {m0 : zM} {a0 : Int} (hd : 5 ≤ d) (hI0 : zInv m0) (ha0 : (-2147483648) ≤ a0 ∧ a0 ≤ 2147483647) : zC E d 163 [(2, 69), (0, a0)] m0 (fun v m' => ∃ r : Int, v = (0, r) ∧ (-2147483648) ≤ r ∧ r ≤ 2147483647 ∧ zInv m' ∧ zFr W_163 m0 m') := by
  have hF0 : zFr W_163 m0 m0 := zFr.rfl
  generalize hQ : (fun (v : zV) (m' : zM) => ∃ r : Int, v = (0, r) ∧ (-2147483648) ≤ r ∧ r ≤ 2147483647 ∧ zInv m' ∧ zFr W_163 m0 m') = Q
  show zW E d 163 0 [(2, 69), (0, a0), (9, 0)] [] m0 Q
  refine zw_3 zr_163_0 rfl ?_
  refine zw_C zr_163_1 (Or.inr rfl) zm_148 rfl rfl ⟨Nat.le_of_ble_eq_true rfl, Nat.le_of_ble_eq_true rfl, Nat.le_of_ble_eq_true rfl, rfl, by decide⟩ (by omega) (P := (fun v m' => zW E (d) 163 4 [(2, 69), (0, a0), (9, 0)] (if v.1 = 9 then [] else v :: []) m' Q)) ?_ (fun _ _ h => h)
  generalize hQ1 : (fun v m' => zW E (d) 163 4 [(2, 69), (0, a0), (9, 0)] (if v.1 = 9 then [] else v :: []) m' Q) = Q1
  show zW E (d - 1) 148 0 [(0, a0)] [] m0 Q1
  refine zw_3 zr_148_0 rfl ?_
  refine zw_36 zr_148_1 ?_
  refine zw_push zr_148_2 ?_
  refine zw_push zr_148_3 ?_
  refine zw_C zr_148_6 (Or.inr rfl) zm_140 rfl rfl ⟨Nat.le_of_ble_eq_true rfl, Nat.le_of_ble_eq_true rfl, Nat.le_of_ble_eq_true rfl, rfl, by decide⟩ (by omega) (P := (fun v m' => zW E (d - 1) 148 9 [(0, a0)] (if v.1 = 9 then [] else v :: []) m' Q1)) ?_ (fun _ _ h => h)
  generalize hQ2 : (fun v m' => zW E (d - 1) 148 9 [(0, a0)] (if v.1 = 9 then [] else v :: []) m' Q1) = Q2
  show zW E (d - 1 - 1) 140 0 [(1, a0), (9, 0), (1, 0), (9, 0), (1, 3), (9, 0)] [] m0 Q2
  refine zw_5 zr_140_0 rfl ?_
  refine zw_5 zr_140_1 rfl ?_
  refine zw_39_0 zr_140_2 zr_140_3 ?_ ?_
  · intro h1
    refine zw_push zr_140_17 ?_
    refine zw_R zr_140_18 (by decide) zm_140 (v := (0, 0)) (zRetB (by omega)) ?_
    rw [← hQ2]
    show zW E (d - 1) 148 9 [(0, a0)] [(0, 0)] m0 Q1
    refine zw_R zr_148_9 (by decide) zm_148 (v := (0, 0)) (zRetB (by omega)) ?_
    rw [← hQ1]
    show zW E (d) 163 4 [(2, 69), (0, a0), (9, 0)] [(0, 0)] m0 Q
    refine zw_40_4 zr_163_4 ?_ ?_
    · intro h2; omega
    · intro h3
      refine zw_push zr_163_7 ?_
      refine zw_R zr_163_9 (by decide) zm_163 (v := (0, (-2))) rfl ?_
      rw [← hQ]; exact ⟨_, rfl, by omega, by omega, hI0, hF0⟩
  · intro h4
    refine zw_5 zr_140_6 rfl ?_
    refine zw_6 zr_140_7 rfl ?_
    refine zw_39_2 zr_140_9 zr_140_10 ?_ ?_
    · intro h5
      refine zw_push zr_140_17 ?_
      refine zw_R zr_140_18 (by decide) zm_140 (v := (0, 0)) (zRetB (by omega)) ?_
      rw [← hQ2]
      show zW E (d - 1) 148 9 [(0, a0)] [(0, 0)] m0 Q1
      refine zw_R zr_148_9 (by decide) zm_148 (v := (0, 0)) (zRetB (by omega)) ?_
      rw [← hQ1]
      show zW E (d) 163 4 [(2, 69), (0, a0), (9, 0)] [(0, 0)] m0 Q
      refine zw_40_4 zr_163_4 ?_ ?_
      · intro h6; omega
      · intro h7
        refine zw_push zr_163_7 ?_
        refine zw_R zr_163_9 (by decide) zm_163 (v := (0, (-2))) rfl ?_
        rw [← hQ]; exact ⟨_, rfl, by omega, by omega, hI0, hF0⟩
    · intro h8
      refine zw_push zr_140_13 ?_
      refine zw_42 zr_140_14 ?_
      refine zw_R zr_140_18 (by decide) zm_140 (v := (0, 1)) (zRetB (by omega)) ?_
      rw [← hQ2]
      show zW E (d - 1) 148 9 [(0, a0)] [(0, 1)] m0 Q1
      refine zw_R zr_148_9 (by decide) zm_148 (v := (0, 1)) (zRetB (by omega)) ?_
      rw [← hQ1]
      show zW E (d) 163 4 [(2, 69), (0, a0), (9, 0)] [(0, 1)] m0 Q
      refine zw_40_4 zr_163_4 ?_ ?_
      · intro h9
        refine zw_7 zr_163_10 rfl ?_
        refine zw_3 zr_163_11 rfl ?_
        refine zw_C zr_163_12 (Or.inl rfl) zm_162 rfl rfl ⟨Nat.le_of_ble_eq_true rfl, Nat.le_of_ble_eq_true rfl, Nat.le_of_ble_eq_true rfl, rfl, by decide⟩ (by omega) (th_162 (d := d - 1) (by omega) hI0 (a0 := a0)      (by omega) ) ?_
        rintro _ m10 ⟨r11, rfl, hr11a, hr11b, hIm10, gm10⟩
        have hFm10 : zFr W_163 m0 m10 := hF0.trans gm10 rfl
        show zW E (d) 163 15 [(2, 69), (0, a0), (9, 0)] [(0, r11)] m10 Q
        refine zw_9 (L' := [(2, 69), (0, a0), (0, r11)]) zr_163_15 (Nat.le_of_ble_eq_true rfl) rfl ?_
        refine zw_7 zr_163_16 rfl ?_
        obtain ⟨f12, ef12⟩ : ∃ v, m10 69 7 = v := ⟨_, rfl⟩
        have bf12 := hIm10.fi (c := 69) (k := 7) rfl
        rw [ef12] at bf12
        refine zw_46i zr_163_17 ef12 rfl rfl rfl ?_
        refine zw_R zr_163_20 (by decide) zm_163 (v := (0, f12)) rfl ?_
        rw [← hQ]; exact ⟨_, rfl, by omega, by omega, hIm10, hFm10⟩
      · intro h13; omega

abbrev W_4_44 : List (Nat × Nat) := [(44, 1000)]
set_option maxHeartbeats 8000000 in
theorem th_4_44 {E : zE} {d : Nat} {m0 : zM} {a0 : Int} (hd : 1 ≤ d) (hI0 : zInv m0) (ha0 : 0 ≤ a0 ∧ a0 ≤ 9999) : zC E d 4 [(2, 44), (0, a0)] m0 (fun v m' => v = (9, 0) ∧ zInv m' ∧ zFr W_4_44 m0 m') := by
  have hF0 : zFr W_4_44 m0 m0 := zFr.rfl
  generalize hQ : (fun (v : zV) (m' : zM) => v = (9, 0) ∧ zInv m' ∧ zFr W_4_44 m0 m') = Q
  show zW E d 4 0 [(2, 44), (0, a0), (9, 0), (9, 0)] [] m0 Q
  refine zw_push zr_4_0 ?_
  refine zw_9 (L' := [(2, 44), (0, a0), (0, 0), (9, 0)]) zr_4_1 (Nat.le_of_ble_eq_true rfl) rfl ?_
  refine zw_7 zr_4_2 rfl ?_
  refine zw_101 (c := 44) (len := 10) zr_4_3 rfl rfl (by decide) ?_
  refine zw_9 (L' := [(2, 44), (0, a0), (0, 0), (0, 10)]) zr_4_4 (Nat.le_of_ble_eq_true rfl) rfl ?_
  have lp5_3 : ∀ (nlp5_3 : Nat) (i1 : Int) (m2 : zM), zInv m2 → zFr W_4_44 m0 m2 → 0 ≤ i1 → i1 ≤ 10 → (10 - i1).toNat < nlp5_3 → zW E (d) 4 5 [(2, 44), (0, a0), (0, i1), (0, 10)] [] m2 Q := by
    intro nlp5_3
    induction nlp5_3 with
    | zero =>
      intros
      exact absurd (by assumption : _ < 0) (Nat.not_lt_zero _)
    | succ nlp5_3 ihlp5_3 =>
      intro i1 m2 hIm2 hFm2 li1 ui1 hmlp5_3
      refine zw_3 zr_4_5 rfl ?_
      refine zw_3 zr_4_6 rfl ?_
      refine zw_41_3 zr_4_7 ?_ ?_
      · intro h5
        refine zw_R zr_4_20 (by decide) zm_4 (v := (9, 0)) rfl ?_
        rw [← hQ]; exact ⟨rfl, hIm2, hFm2⟩
      · intro h6
        refine zw_7 zr_4_10 rfl ?_
        refine zw_3 zr_4_11 rfl ?_
        refine zw_3 zr_4_12 rfl ?_
        refine zw_49 (c := 44) (len := 10) zr_4_13 rfl rfl (by omega) (by omega) ?_
        intro m7 em7
        have hIm7 : zInv m7 := by rw [em7]; exact hIm2.any (by omega) rfl (by decide) (by decide)
        have hFm7 : zFr W_4_44 m0 m7 := by rw [em7]; exact hFm2.any rfl
        clear em7
        refine zw_15 (c := 1) (L' := [(2, 44), (0, a0), (0, (i1 + 1)), (0, 10)]) zr_4_14 rfl (by decide) (by omega) rfl ?_
        refine zw_42 zr_4_17 ?_
        exact zw_less (L := [(2, 44), (0, a0), (0, (i1 + 1)), (0, 10)]) ⟨Or.inr rfl, Or.inr rfl, Or.inr rfl, Or.inr rfl, trivial⟩ (ihlp5_3 ((i1 + 1)) m7 hIm7 hFm7   (by omega) (by omega)  (by omega))
  exact lp5_3 _ (0) m0 hI0 hF0   (by omega) (by omega)  (Nat.lt_succ_self _)

abbrev W_4_50 : List (Nat × Nat) := [(50, 1000)]
set_option maxHeartbeats 8000000 in
theorem th_4_50 {E : zE} {d : Nat} {m0 : zM} {a0 : Int} (hd : 1 ≤ d) (hI0 : zInv m0) (ha0 : 0 ≤ a0 ∧ a0 ≤ 0) : zC E d 4 [(2, 50), (0, a0)] m0 (fun v m' => v = (9, 0) ∧ zInv m' ∧ zFr W_4_50 m0 m') := by
  have hF0 : zFr W_4_50 m0 m0 := zFr.rfl
  generalize hQ : (fun (v : zV) (m' : zM) => v = (9, 0) ∧ zInv m' ∧ zFr W_4_50 m0 m') = Q
  show zW E d 4 0 [(2, 50), (0, a0), (9, 0), (9, 0)] [] m0 Q
  refine zw_push zr_4_0 ?_
  refine zw_9 (L' := [(2, 50), (0, a0), (0, 0), (9, 0)]) zr_4_1 (Nat.le_of_ble_eq_true rfl) rfl ?_
  refine zw_7 zr_4_2 rfl ?_
  refine zw_101 (c := 50) (len := 10) zr_4_3 rfl rfl (by decide) ?_
  refine zw_9 (L' := [(2, 50), (0, a0), (0, 0), (0, 10)]) zr_4_4 (Nat.le_of_ble_eq_true rfl) rfl ?_
  have lp5_3 : ∀ (nlp5_3 : Nat) (i1 : Int) (m2 : zM), zInv m2 → zFr W_4_50 m0 m2 → 0 ≤ i1 → i1 ≤ 10 → (10 - i1).toNat < nlp5_3 → zW E (d) 4 5 [(2, 50), (0, a0), (0, i1), (0, 10)] [] m2 Q := by
    intro nlp5_3
    induction nlp5_3 with
    | zero =>
      intros
      exact absurd (by assumption : _ < 0) (Nat.not_lt_zero _)
    | succ nlp5_3 ihlp5_3 =>
      intro i1 m2 hIm2 hFm2 li1 ui1 hmlp5_3
      refine zw_3 zr_4_5 rfl ?_
      refine zw_3 zr_4_6 rfl ?_
      refine zw_41_3 zr_4_7 ?_ ?_
      · intro h5
        refine zw_R zr_4_20 (by decide) zm_4 (v := (9, 0)) rfl ?_
        rw [← hQ]; exact ⟨rfl, hIm2, hFm2⟩
      · intro h6
        refine zw_7 zr_4_10 rfl ?_
        refine zw_3 zr_4_11 rfl ?_
        refine zw_3 zr_4_12 rfl ?_
        refine zw_49 (c := 50) (len := 10) zr_4_13 rfl rfl (by omega) (by omega) ?_
        intro m7 em7
        have hIm7 : zInv m7 := by rw [em7]; exact hIm2.any (by omega) rfl (by decide) (by decide)
        have hFm7 : zFr W_4_50 m0 m7 := by rw [em7]; exact hFm2.any rfl
        clear em7
        refine zw_15 (c := 1) (L' := [(2, 50), (0, a0), (0, (i1 + 1)), (0, 10)]) zr_4_14 rfl (by decide) (by omega) rfl ?_
        refine zw_42 zr_4_17 ?_
        exact zw_less (L := [(2, 50), (0, a0), (0, (i1 + 1)), (0, 10)]) ⟨Or.inr rfl, Or.inr rfl, Or.inr rfl, Or.inr rfl, trivial⟩ (ihlp5_3 ((i1 + 1)) m7 hIm7 hFm7   (by omega) (by omega)  (by omega))
  exact lp5_3 _ (0) m0 hI0 hF0   (by omega) (by omega)  (Nat.lt_succ_self _)

abbrev W_4_51 : List (Nat × Nat) := [(51, 1000)]
set_option maxHeartbeats 8000000 in
theorem th_4_51 {E : zE} {d : Nat} {m0 : zM} {a0 : Int} (hd : 1 ≤ d) (hI0 : zInv m0) (ha0 : 0 ≤ a0 ∧ a0 ≤ 0) : zC E d 4 [(2, 51), (0, a0)] m0 (fun v m' => v = (9, 0) ∧ zInv m' ∧ zFr W_4_51 m0 m') := by
  have hF0 : zFr W_4_51 m0 m0 := zFr.rfl
  generalize hQ : (fun (v : zV) (m' : zM) => v = (9, 0) ∧ zInv m' ∧ zFr W_4_51 m0 m') = Q
  show zW E d 4 0 [(2, 51), (0, a0), (9, 0), (9, 0)] [] m0 Q
  refine zw_push zr_4_0 ?_
  refine zw_9 (L' := [(2, 51), (0, a0), (0, 0), (9, 0)]) zr_4_1 (Nat.le_of_ble_eq_true rfl) rfl ?_
  refine zw_7 zr_4_2 rfl ?_
  refine zw_101 (c := 51) (len := 10) zr_4_3 rfl rfl (by decide) ?_
  refine zw_9 (L' := [(2, 51), (0, a0), (0, 0), (0, 10)]) zr_4_4 (Nat.le_of_ble_eq_true rfl) rfl ?_
  have lp5_3 : ∀ (nlp5_3 : Nat) (i1 : Int) (m2 : zM), zInv m2 → zFr W_4_51 m0 m2 → 0 ≤ i1 → i1 ≤ 10 → (10 - i1).toNat < nlp5_3 → zW E (d) 4 5 [(2, 51), (0, a0), (0, i1), (0, 10)] [] m2 Q := by
    intro nlp5_3
    induction nlp5_3 with
    | zero =>
      intros
      exact absurd (by assumption : _ < 0) (Nat.not_lt_zero _)
    | succ nlp5_3 ihlp5_3 =>
      intro i1 m2 hIm2 hFm2 li1 ui1 hmlp5_3
      refine zw_3 zr_4_5 rfl ?_
      refine zw_3 zr_4_6 rfl ?_
      refine zw_41_3 zr_4_7 ?_ ?_
      · intro h5
        refine zw_R zr_4_20 (by decide) zm_4 (v := (9, 0)) rfl ?_
        rw [← hQ]; exact ⟨rfl, hIm2, hFm2⟩
      · intro h6
        refine zw_7 zr_4_10 rfl ?_
        refine zw_3 zr_4_11 rfl ?_
        refine zw_3 zr_4_12 rfl ?_
        refine zw_49 (c := 51) (len := 10) zr_4_13 rfl rfl (by omega) (by omega) ?_
        intro m7 em7
        have hIm7 : zInv m7 := by rw [em7]; exact hIm2.any (by omega) rfl (by decide) (by decide)
        have hFm7 : zFr W_4_51 m0 m7 := by rw [em7]; exact hFm2.any rfl
        clear em7
        refine zw_15 (c := 1) (L' := [(2, 51), (0, a0), (0, (i1 + 1)), (0, 10)]) zr_4_14 rfl (by decide) (by omega) rfl ?_
        refine zw_42 zr_4_17 ?_
        exact zw_less (L := [(2, 51), (0, a0), (0, (i1 + 1)), (0, 10)]) ⟨Or.inr rfl, Or.inr rfl, Or.inr rfl, Or.inr rfl, trivial⟩ (ihlp5_3 ((i1 + 1)) m7 hIm7 hFm7   (by omega) (by omega)  (by omega))
  exact lp5_3 _ (0) m0 hI0 hF0   (by omega) (by omega)  (Nat.lt_succ_self _)

abbrev W_16 : List (Nat × Nat) := [(44, 1000), (45, 1), (45, 5), (45, 6), (45, 7), (45, 8), (47, 1000), (48, 1000), (50, 1000), (51, 1000)]
set_option maxHeartbeats 8000000 in
theorem th_16 {E : zE} {d : Nat} {m0 : zM} {a0 : Int} (hd : 94 ≤ d) (hI0 : zInv m0) (ha0 : 0 ≤ a0 ∧ a0 ≤ 3) : zC E d 16 [(2, 43), (0, a0)] m0 (fun v m' => v = (9, 0) ∧ zInv m' ∧ zFr W_16 m0 m') := by
  have hF0 : zFr W_16 m0 m0 := zFr.rfl
  generalize hQ : (fun (v : zV) (m' : zM) => v = (9, 0) ∧ zInv m' ∧ zFr W_16 m0 m') = Q
  show zW E d 16 0 [(2, 43), (0, a0)] [] m0 Q
  refine zw_7 zr_16_0 rfl ?_
  refine zw_46r (s := 45) zr_16_1 rfl rfl rfl rfl ?_
  refine zw_7 zr_16_4 rfl ?_
  refine zw_46r (s := 1) zr_16_5 rfl rfl rfl rfl ?_
  refine zw_3 zr_16_8 rfl ?_
  refine zw_C zr_16_9 (Or.inl rfl) zm_15 rfl rfl ⟨Nat.le_of_ble_eq_true rfl, Nat.le_of_ble_eq_true rfl, Nat.le_of_ble_eq_true rfl, rfl, by decide⟩ (by omega) (th_15_1 (d := d - 1) (by omega) hI0 (a0 := a0)      (by omega) ) ?_
  rintro _ m1 ⟨rfl, hIm1, gm1⟩
  have hFm1 : zFr W_16 m0 m1 := hF0.trans gm1 rfl
  show zW E (d) 16 12 [(2, 43), (0, a0)] [] m1 Q
  refine zw_7 zr_16_12 rfl ?_
  refine zw_46r (s := 44) zr_16_13 rfl rfl rfl rfl ?_
  refine zw_7 zr_16_16 rfl ?_
  refine zw_46r (s := 1) zr_16_17 rfl rfl rfl rfl ?_
  refine zw_46r (s := 9) zr_16_20 rfl rfl rfl rfl ?_
  refine zw_3 zr_16_23 rfl ?_
  refine zw_48 (c := 9) (len := 4) zr_16_24 rfl rfl (by omega) (by omega) ?_
  intro x2 ex2
  have bx2 := ib_9 hIm1 (k := (a0).toNat) (by omega)
  rw [← ex2] at bx2
  clear ex2
  refine zw_C zr_16_25 (Or.inr rfl) zm_4 rfl rfl ⟨Nat.le_of_ble_eq_true rfl, Nat.le_of_ble_eq_true rfl, Nat.le_of_ble_eq_true rfl, rfl, by decide⟩ (by omega) (th_4_44 (d := d - 1) (by omega) hIm1 (a0 := x2)      (by omega) ) ?_
  rintro _ m3 ⟨rfl, hIm3, gm3⟩
  have hFm3 : zFr W_16 m0 m3 := hFm1.trans gm3 rfl
  show zW E (d) 16 28 [(2, 43), (0, a0)] [] m3 Q
  refine zw_7 zr_16_28 rfl ?_
  refine zw_46r (s := 50) zr_16_29 rfl rfl rfl rfl ?_
  refine zw_push zr_16_32 ?_
  refine zw_C zr_16_33 (Or.inr rfl) zm_4 rfl rfl ⟨Nat.le_of_ble_eq_true rfl, Nat.le_of_ble_eq_true rfl, Nat.le_of_ble_eq_true rfl, rfl, by decide⟩ (by omega) (th_4_50 (d := d - 1) (by omega) hIm3 (a0 := 0)      (by omega) ) ?_
  rintro _ m4 ⟨rfl, hIm4, gm4⟩
  have hFm4 : zFr W_16 m0 m4 := hFm3.trans gm4 rfl
  show zW E (d) 16 36 [(2, 43), (0, a0)] [] m4 Q
  refine zw_7 zr_16_36 rfl ?_
  refine zw_46r (s := 51) zr_16_37 rfl rfl rfl rfl ?_
  refine zw_push zr_16_40 ?_
  refine zw_C zr_16_41 (Or.inr rfl) zm_4 rfl rfl ⟨Nat.le_of_ble_eq_true rfl, Nat.le_of_ble_eq_true rfl, Nat.le_of_ble_eq_true rfl, rfl, by decide⟩ (by omega) (th_4_51 (d := d - 1) (by omega) hIm4 (a0 := 0)      (by omega) ) ?_
  rintro _ m5 ⟨rfl, hIm5, gm5⟩
  have hFm5 : zFr W_16 m0 m5 := hFm4.trans gm5 rfl
  show zW E (d) 16 44 [(2, 43), (0, a0)] [] m5 Q
  refine zw_R zr_16_44 (by decide) zm_16 (v := (9, 0)) rfl ?_
  rw [← hQ]; exact ⟨rfl, hIm5, hFm5⟩

set_option maxHeartbeats 8000000 in
theorem th_21 {E : zE} {d : Nat} {m0 : zM} {a0 : Int} {a1 : Int} {a2 : Int} (hd : 1 ≤ d) (hI0 : zInv m0) (ha0 : (-9223372036854775808) ≤ a0 ∧ a0 ≤ 9223372036854775807) (ha1 : (-2147483648) ≤ a1 ∧ a1 ≤ 2147483647) (ha2 : (-9223372036854775808) ≤ a2 ∧ a2 ≤ 9223372036854775807) : zC E d 21 [(1, a0), (0, a1), (1, a2)] m0 (fun v m' => ∃ r : Int, v = (1, r) ∧ (-9223372036854775808) ≤ r ∧ r ≤ 9223372036854775807 ∧ m0 = m') := by
  generalize hQ : (fun (v : zV) (m' : zM) => ∃ r : Int, v = (1, r) ∧ (-9223372036854775808) ≤ r ∧ r ≤ 9223372036854775807 ∧ m0 = m') = Q
  show zW E d 21 0 [(1, a0), (9, 0), (0, a1), (1, a2), (9, 0)] [] m0 Q
  refine zw_3 zr_21_0 rfl ?_
  by_cases h1 : a1 = 38
  · refine zw_112 (off := 93) (t := 94) zr_21_1 (by rw [h1]; rfl) rfl ?_
    refine zw_5 zr_21_94 rfl ?_
    refine zw_push zr_21_95 ?_
    refine zw_39_1 zr_21_96 zr_21_97 ?_ ?_
    · intro h2
      refine zw_push zr_21_110 ?_
      refine zw_R zr_21_111 (by decide) zm_21 (v := (1, 0)) rfl ?_
      rw [← hQ]; exact ⟨_, rfl, by omega, by omega, rfl⟩
    · intro h3
      refine zw_5 zr_21_100 rfl ?_
      refine zw_push zr_21_101 ?_
      refine zw_39_1 zr_21_102 zr_21_103 ?_ ?_
      · intro h4
        refine zw_push zr_21_110 ?_
        refine zw_R zr_21_111 (by decide) zm_21 (v := (1, 0)) rfl ?_
        rw [← hQ]; exact ⟨_, rfl, by omega, by omega, rfl⟩
      · intro h5
        refine zw_push zr_21_106 ?_
        refine zw_42 zr_21_107 ?_
        refine zw_R zr_21_111 (by decide) zm_21 (v := (1, 1)) rfl ?_
        rw [← hQ]; exact ⟨_, rfl, by omega, by omega, rfl⟩
  by_cases h6 : a1 = 42
  · refine zw_112 (off := 155) (t := 156) zr_21_1 (by rw [h6]; rfl) rfl ?_
    refine zw_5 zr_21_156 rfl ?_
    refine zw_5 zr_21_157 rfl ?_
    refine zw_29h zr_21_158 ?_
    intro x7 hx7a hx7b
    refine zw_R zr_21_159 (by decide) zm_21 (v := (1, x7)) rfl ?_
    rw [← hQ]; exact ⟨_, rfl, by omega, by omega, rfl⟩
  by_cases h8 : a1 = 43
  · refine zw_112 (off := 147) (t := 148) zr_21_1 (by rw [h8]; rfl) rfl ?_
    refine zw_5 zr_21_148 rfl ?_
    refine zw_5 zr_21_149 rfl ?_
    refine zw_27h zr_21_150 ?_
    intro x9 hx9a hx9b
    refine zw_R zr_21_151 (by decide) zm_21 (v := (1, x9)) rfl ?_
    rw [← hQ]; exact ⟨_, rfl, by omega, by omega, rfl⟩
  by_cases h10 : a1 = 45
  · refine zw_112 (off := 151) (t := 152) zr_21_1 (by rw [h10]; rfl) rfl ?_
    refine zw_5 zr_21_152 rfl ?_
    refine zw_5 zr_21_153 rfl ?_
    refine zw_28h zr_21_154 ?_
    intro x11 hx11a hx11b
    refine zw_R zr_21_155 (by decide) zm_21 (v := (1, x11)) rfl ?_
    rw [← hQ]; exact ⟨_, rfl, by omega, by omega, rfl⟩
  by_cases h12 : a1 = 60
  · refine zw_112 (off := 111) (t := 112) zr_21_1 (by rw [h12]; rfl) rfl ?_
    refine zw_5 zr_21_112 rfl ?_
    refine zw_5 zr_21_113 rfl ?_
    refine zw_39_3 zr_21_114 zr_21_115 ?_ ?_
    · intro h13
      refine zw_push zr_21_122 ?_
      refine zw_R zr_21_123 (by decide) zm_21 (v := (1, 0)) rfl ?_
      rw [← hQ]; exact ⟨_, rfl, by omega, by omega, rfl⟩
    · intro h14
      refine zw_push zr_21_118 ?_
      refine zw_42 zr_21_119 ?_
      refine zw_R zr_21_123 (by decide) zm_21 (v := (1, 1)) rfl ?_
      rw [← hQ]; exact ⟨_, rfl, by omega, by omega, rfl⟩
  by_cases h15 : a1 = 61
  · refine zw_112 (off := 135) (t := 136) zr_21_1 (by rw [h15]; rfl) rfl ?_
    refine zw_5 zr_21_136 rfl ?_
    refine zw_5 zr_21_137 rfl ?_
    refine zw_39_4 zr_21_138 zr_21_139 ?_ ?_
    · intro h16
      refine zw_push zr_21_146 ?_
      refine zw_R zr_21_147 (by decide) zm_21 (v := (1, 0)) rfl ?_
      rw [← hQ]; exact ⟨_, rfl, by omega, by omega, rfl⟩
    · intro h17
      refine zw_push zr_21_142 ?_
      refine zw_42 zr_21_143 ?_
      refine zw_R zr_21_147 (by decide) zm_21 (v := (1, 1)) rfl ?_
      rw [← hQ]; exact ⟨_, rfl, by omega, by omega, rfl⟩
  by_cases h18 : a1 = 62
  · refine zw_112 (off := 123) (t := 124) zr_21_1 (by rw [h18]; rfl) rfl ?_
    refine zw_5 zr_21_124 rfl ?_
    refine zw_5 zr_21_125 rfl ?_
    refine zw_39_5 zr_21_126 zr_21_127 ?_ ?_
    · intro h19
      refine zw_push zr_21_134 ?_
      refine zw_R zr_21_135 (by decide) zm_21 (v := (1, 0)) rfl ?_
      rw [← hQ]; exact ⟨_, rfl, by omega, by omega, rfl⟩
    · intro h20
      refine zw_push zr_21_130 ?_
      refine zw_42 zr_21_131 ?_
      refine zw_R zr_21_135 (by decide) zm_21 (v := (1, 1)) rfl ?_
      rw [← hQ]; exact ⟨_, rfl, by omega, by omega, rfl⟩
  by_cases h21 : a1 = 124
  · refine zw_112 (off := 75) (t := 76) zr_21_1 (by rw [h21]; rfl) rfl ?_
    refine zw_5 zr_21_76 rfl ?_
    refine zw_push zr_21_77 ?_
    refine zw_39_4 zr_21_78 zr_21_79 ?_ ?_
    · intro h22
      refine zw_push zr_21_88 ?_
      refine zw_42 zr_21_89 ?_
      refine zw_R zr_21_93 (by decide) zm_21 (v := (1, 1)) rfl ?_
      rw [← hQ]; exact ⟨_, rfl, by omega, by omega, rfl⟩
    · intro h23
      refine zw_5 zr_21_82 rfl ?_
      refine zw_push zr_21_83 ?_
      refine zw_39_1 zr_21_84 zr_21_85 ?_ ?_
      · intro h24
        refine zw_push zr_21_92 ?_
        refine zw_R zr_21_93 (by decide) zm_21 (v := (1, 0)) rfl ?_
        rw [← hQ]; exact ⟨_, rfl, by omega, by omega, rfl⟩
      · intro h25
        refine zw_push zr_21_88 ?_
        refine zw_42 zr_21_89 ?_
        refine zw_R zr_21_93 (by decide) zm_21 (v := (1, 1)) rfl ?_
        rw [← hQ]; exact ⟨_, rfl, by omega, by omega, rfl⟩
  refine zw_112 (off := 159) (t := 160) zr_21_1 (zlsw_df (by simp; omega)) rfl ?_
  refine zw_5 zr_21_160 rfl ?_
  refine zw_push zr_21_161 ?_
  refine zw_39_4 zr_21_162 zr_21_163 ?_ ?_
  · intro h26
    refine zw_5 zr_21_170 rfl ?_
    refine zw_5 zr_21_171 rfl ?_
    refine zw_118h zr_21_172 (by omega) ?_
    intro x27 hx27a hx27b
    refine zw_R zr_21_173 (by decide) zm_21 (v := (1, x27)) rfl ?_
    rw [← hQ]; exact ⟨_, rfl, by omega, by omega, rfl⟩
  · intro h28
    refine zw_push zr_21_166 ?_
    refine zw_42 zr_21_167 ?_
    refine zw_R zr_21_173 (by decide) zm_21 (v := (1, 0)) rfl ?_
    rw [← hQ]; exact ⟨_, rfl, by omega, by omega, rfl⟩

abbrev W_22 : List (Nat × Nat) := [(45, 9), (49, 1000)]
set_option maxHeartbeats 8000000 in
theorem th_22 {E : zE} {d : Nat} {m0 : zM} {a0 : Int} (hd : 2 ≤ d) (hI0 : zInv m0) (ha0 : (-2147483648) ≤ a0 ∧ a0 ≤ 2147483647) : zC E d 22 [(2, 45), (0, a0)] m0 (fun v m' => v = (9, 0) ∧ zInv m' ∧ zFr W_22 m0 m') := by
  have hF0 : zFr W_22 m0 m0 := zFr.rfl
  generalize hQ : (fun (v : zV) (m' : zM) => v = (9, 0) ∧ zInv m' ∧ zFr W_22 m0 m') = Q
  show zW E d 22 0 [(2, 45), (0, a0), (9, 0), (9, 0), (9, 0)] [] m0 Q
  refine zw_3 zr_22_0 rfl ?_
  refine zw_C zr_22_1 (Or.inr rfl) zm_10 rfl rfl ⟨Nat.le_of_ble_eq_true rfl, Nat.le_of_ble_eq_true rfl, Nat.le_of_ble_eq_true rfl, rfl, by decide⟩ (by omega) (P := (fun v m' => zW E (d) 22 4 [(2, 45), (0, a0), (9, 0), (9, 0), (9, 0)] (if v.1 = 9 then [] else v :: []) m' Q)) ?_ (fun _ _ h => h)
  generalize hQ1 : (fun v m' => zW E (d) 22 4 [(2, 45), (0, a0), (9, 0), (9, 0), (9, 0)] (if v.1 = 9 then [] else v :: []) m' Q) = Q1
  show zW E (d - 1) 10 0 [(0, a0)] [] m0 Q1
  refine zw_3 zr_10_0 rfl ?_
  by_cases h1 : a0 = 101
  · refine zw_112 (off := 63) (t := 64) zr_10_1 (by rw [h1]; rfl) rfl ?_
    refine zw_push zr_10_64 ?_
    refine zw_R zr_10_65 (by decide) zm_10 (v := (0, 2)) rfl ?_
    rw [← hQ1]
    show zW E (d) 22 4 [(2, 45), (0, a0), (9, 0), (9, 0), (9, 0)] [(0, 2)] m0 Q
    refine zw_9 (L' := [(2, 45), (0, a0), (0, 2), (9, 0), (9, 0)]) zr_22_4 (Nat.le_of_ble_eq_true rfl) rfl ?_
    refine zw_3 zr_22_5 rfl ?_
    refine zw_push zr_22_6 ?_
    refine zw_41_1 zr_22_7 ?_ ?_
    · intro h2; omega
    · intro h3
      refine zw_7 zr_22_10 rfl ?_
      refine zw_7 zr_22_11 rfl ?_
      refine zw_46r (s := 46) zr_22_12 rfl rfl rfl rfl ?_
      refine zw_3 zr_22_15 rfl ?_
      obtain ⟨f4, ef4⟩ : ∃ v, m0 46 2 = v := ⟨_, rfl⟩
      have bf4 : (-9223372036854775808) ≤ m0 46 2 ∧ m0 46 2 ≤ 9223372036854775807 := hI0.rl (c := 46) (len := 6) rfl (by omega)
      rw [ef4] at bf4
      refine zw_50k (c := 46) (len := 6) zr_22_16 rfl rfl (by omega) (by omega) (show (2 : Int).toNat = 2 by omega) ef4 ?_
      refine zw_C zr_22_17 (Or.inl rfl) zm_19 rfl rfl ⟨Nat.le_of_ble_eq_true rfl, Nat.le_of_ble_eq_true rfl, Nat.le_of_ble_eq_true rfl, rfl, by decide⟩ (by omega) (P := (fun v m' => zW E (d) 22 20 [(2, 45), (0, a0), (0, 2), (9, 0), (9, 0)] (if v.1 = 9 then [] else v :: []) m' Q)) ?_ (fun _ _ h => h)
      generalize hQ1 : (fun v m' => zW E (d) 22 20 [(2, 45), (0, a0), (0, 2), (9, 0), (9, 0)] (if v.1 = 9 then [] else v :: []) m' Q) = Q1
      show zW E (d - 1) 19 0 [(2, 45), (1, f4), (9, 0)] [] m0 Q1
      refine zw_7 zr_19_0 rfl ?_
      obtain ⟨f5, ef5⟩ : ∃ v, m0 45 9 = v := ⟨_, rfl⟩
      have bf5 := ib_45_9 hI0
      rw [ef5] at bf5
      refine zw_46i zr_19_1 ef5 rfl rfl rfl ?_
      refine zw_push zr_19_4 ?_
      refine zw_41_3 zr_19_6 ?_ ?_
      · intro h6
        refine zw_R zr_19_29 (by decide) zm_19 (v := (9, 0)) rfl ?_
        rw [← hQ1]
        show zW E (d) 22 20 [(2, 45), (0, a0), (0, 2), (9, 0), (9, 0)] [] m0 Q
        refine zw_R zr_22_20 (by decide) zm_22 (v := (9, 0)) rfl ?_
        rw [← hQ]; exact ⟨rfl, hI0, hF0⟩
      · intro h7
        refine zw_7 zr_19_9 rfl ?_
        refine zw_46r (s := 49) zr_19_10 rfl rfl rfl rfl ?_
        refine zw_7 zr_19_13 rfl ?_
        refine zw_46i zr_19_14 ef5 rfl rfl rfl ?_
        refine zw_5 zr_19_17 rfl ?_
        refine zw_51 (c := 49) (len := 50) zr_19_18 rfl rfl (by omega) (by omega) ?_
        intro m8 em8
        have hIm8 : zInv m8 := by rw [em8]; exact hI0.anyl (by omega) (zK3 rfl) rfl (by decide) (by decide)
        have hFm8 : zFr W_22 m0 m8 := by rw [em8]; exact hF0.any rfl
        have km8_46_2 : m8 46 2 = f4 := by rw [em8, zUp_ne (by omega)]; exact ef4
        have km8_45_9 : m8 45 9 = f5 := by rw [em8, zUp_ne (by omega)]; exact ef5
        clear em8
        refine zw_7 zr_19_19 rfl ?_
        refine zw_43 zr_19_20 rfl ?_
        refine zw_46i zr_19_21 km8_45_9 rfl rfl rfl ?_
        refine zw_push zr_19_24 ?_
        refine zw_16 zr_19_25 (by omega) ?_
        refine zw_47 (c := 45) zr_19_26 rfl ⟨rfl, by decide, rfl⟩ ?_
        intro m9 em9
        have hIm9 : zInv m9 := by rw [em9]; exact hIm8.bd (r := 45) (k := 9) (lo := 0) (hi := 50) rfl (by omega) (by decide) (by decide) (by decide)
        have hFm9 : zFr W_22 m0 m9 := by rw [em9]; exact hFm8.up rfl
        have km9_46_2 : m9 46 2 = f4 := by rw [em9, zUp_ne (by omega)]; exact km8_46_2
        have km9_45_9 : m9 45 9 = (f5 + 1) := by rw [em9]; exact zUp_eq _ _ _ _
        clear em9
        refine zw_R zr_19_29 (by decide) zm_19 (v := (9, 0)) rfl ?_
        rw [← hQ1]
        show zW E (d) 22 20 [(2, 45), (0, a0), (0, 2), (9, 0), (9, 0)] [] m9 Q
        refine zw_R zr_22_20 (by decide) zm_22 (v := (9, 0)) rfl ?_
        rw [← hQ]; exact ⟨rfl, hIm9, hFm9⟩
  by_cases h10 : a0 = 103
  · refine zw_112 (off := 69) (t := 70) zr_10_1 (by rw [h10]; rfl) rfl ?_
    refine zw_push zr_10_70 ?_
    refine zw_R zr_10_71 (by decide) zm_10 (v := (0, 5)) rfl ?_
    rw [← hQ1]
    show zW E (d) 22 4 [(2, 45), (0, a0), (9, 0), (9, 0), (9, 0)] [(0, 5)] m0 Q
    refine zw_9 (L' := [(2, 45), (0, a0), (0, 5), (9, 0), (9, 0)]) zr_22_4 (Nat.le_of_ble_eq_true rfl) rfl ?_
    refine zw_3 zr_22_5 rfl ?_
    refine zw_push zr_22_6 ?_
    refine zw_41_1 zr_22_7 ?_ ?_
    · intro h11; omega
    · intro h12
      refine zw_7 zr_22_10 rfl ?_
      refine zw_7 zr_22_11 rfl ?_
      refine zw_46r (s := 46) zr_22_12 rfl rfl rfl rfl ?_
      refine zw_3 zr_22_15 rfl ?_
      obtain ⟨f13, ef13⟩ : ∃ v, m0 46 5 = v := ⟨_, rfl⟩
      have bf13 : (-9223372036854775808) ≤ m0 46 5 ∧ m0 46 5 ≤ 9223372036854775807 := hI0.rl (c := 46) (len := 6) rfl (by omega)
      rw [ef13] at bf13
      refine zw_50k (c := 46) (len := 6) zr_22_16 rfl rfl (by omega) (by omega) (show (5 : Int).toNat = 5 by omega) ef13 ?_
      refine zw_C zr_22_17 (Or.inl rfl) zm_19 rfl rfl ⟨Nat.le_of_ble_eq_true rfl, Nat.le_of_ble_eq_true rfl, Nat.le_of_ble_eq_true rfl, rfl, by decide⟩ (by omega) (P := (fun v m' => zW E (d) 22 20 [(2, 45), (0, a0), (0, 5), (9, 0), (9, 0)] (if v.1 = 9 then [] else v :: []) m' Q)) ?_ (fun _ _ h => h)
      generalize hQ1 : (fun v m' => zW E (d) 22 20 [(2, 45), (0, a0), (0, 5), (9, 0), (9, 0)] (if v.1 = 9 then [] else v :: []) m' Q) = Q1
      show zW E (d - 1) 19 0 [(2, 45), (1, f13), (9, 0)] [] m0 Q1
      refine zw_7 zr_19_0 rfl ?_
      obtain ⟨f14, ef14⟩ : ∃ v, m0 45 9 = v := ⟨_, rfl⟩
      have bf14 := ib_45_9 hI0
      rw [ef14] at bf14
      refine zw_46i zr_19_1 ef14 rfl rfl rfl ?_
      refine zw_push zr_19_4 ?_
      refine zw_41_3 zr_19_6 ?_ ?_
      · intro h15
        refine zw_R zr_19_29 (by decide) zm_19 (v := (9, 0)) rfl ?_
        rw [← hQ1]
        show zW E (d) 22 20 [(2, 45), (0, a0), (0, 5), (9, 0), (9, 0)] [] m0 Q
        refine zw_R zr_22_20 (by decide) zm_22 (v := (9, 0)) rfl ?_
        rw [← hQ]; exact ⟨rfl, hI0, hF0⟩
      · intro h16
        refine zw_7 zr_19_9 rfl ?_
        refine zw_46r (s := 49) zr_19_10 rfl rfl rfl rfl ?_
        refine zw_7 zr_19_13 rfl ?_
        refine zw_46i zr_19_14 ef14 rfl rfl rfl ?_
        refine zw_5 zr_19_17 rfl ?_
        refine zw_51 (c := 49) (len := 50) zr_19_18 rfl rfl (by omega) (by omega) ?_
        intro m17 em17
        have hIm17 : zInv m17 := by rw [em17]; exact hI0.anyl (by omega) (zK3 rfl) rfl (by decide) (by decide)
        have hFm17 : zFr W_22 m0 m17 := by rw [em17]; exact hF0.any rfl
        have km17_46_5 : m17 46 5 = f13 := by rw [em17, zUp_ne (by omega)]; exact ef13
        have km17_45_9 : m17 45 9 = f14 := by rw [em17, zUp_ne (by omega)]; exact ef14
        clear em17
        refine zw_7 zr_19_19 rfl ?_
        refine zw_43 zr_19_20 rfl ?_
        refine zw_46i zr_19_21 km17_45_9 rfl rfl rfl ?_
        refine zw_push zr_19_24 ?_
        refine zw_16 zr_19_25 (by omega) ?_
        refine zw_47 (c := 45) zr_19_26 rfl ⟨rfl, by decide, rfl⟩ ?_
        intro m18 em18
        have hIm18 : zInv m18 := by rw [em18]; exact hIm17.bd (r := 45) (k := 9) (lo := 0) (hi := 50) rfl (by omega) (by decide) (by decide) (by decide)
        have hFm18 : zFr W_22 m0 m18 := by rw [em18]; exact hFm17.up rfl
        have km18_46_5 : m18 46 5 = f13 := by rw [em18, zUp_ne (by omega)]; exact km17_46_5
        have km18_45_9 : m18 45 9 = (f14 + 1) := by rw [em18]; exact zUp_eq _ _ _ _
        clear em18
        refine zw_R zr_19_29 (by decide) zm_19 (v := (9, 0)) rfl ?_
        rw [← hQ1]
        show zW E (d) 22 20 [(2, 45), (0, a0), (0, 5), (9, 0), (9, 0)] [] m18 Q
        refine zw_R zr_22_20 (by decide) zm_22 (v := (9, 0)) rfl ?_
        rw [← hQ]; exact ⟨rfl, hIm18, hFm18⟩
  by_cases h19 : a0 = 109
  · refine zw_112 (off := 65) (t := 66) zr_10_1 (by rw [h19]; rfl) rfl ?_
    refine zw_push zr_10_66 ?_
    refine zw_R zr_10_67 (by decide) zm_10 (v := (0, 3)) rfl ?_
    rw [← hQ1]
    show zW E (d) 22 4 [(2, 45), (0, a0), (9, 0), (9, 0), (9, 0)] [(0, 3)] m0 Q
    refine zw_9 (L' := [(2, 45), (0, a0), (0, 3), (9, 0), (9, 0)]) zr_22_4 (Nat.le_of_ble_eq_true rfl) rfl ?_
    refine zw_3 zr_22_5 rfl ?_
    refine zw_push zr_22_6 ?_
    refine zw_41_1 zr_22_7 ?_ ?_
    · intro h20; omega
    · intro h21
      refine zw_7 zr_22_10 rfl ?_
      refine zw_7 zr_22_11 rfl ?_
      refine zw_46r (s := 46) zr_22_12 rfl rfl rfl rfl ?_
      refine zw_3 zr_22_15 rfl ?_
      obtain ⟨f22, ef22⟩ : ∃ v, m0 46 3 = v := ⟨_, rfl⟩
      have bf22 : (-9223372036854775808) ≤ m0 46 3 ∧ m0 46 3 ≤ 9223372036854775807 := hI0.rl (c := 46) (len := 6) rfl (by omega)
      rw [ef22] at bf22
      refine zw_50k (c := 46) (len := 6) zr_22_16 rfl rfl (by omega) (by omega) (show (3 : Int).toNat = 3 by omega) ef22 ?_
      refine zw_C zr_22_17 (Or.inl rfl) zm_19 rfl rfl ⟨Nat.le_of_ble_eq_true rfl, Nat.le_of_ble_eq_true rfl, Nat.le_of_ble_eq_true rfl, rfl, by decide⟩ (by omega) (P := (fun v m' => zW E (d) 22 20 [(2, 45), (0, a0), (0, 3), (9, 0), (9, 0)] (if v.1 = 9 then [] else v :: []) m' Q)) ?_ (fun _ _ h => h)
      generalize hQ1 : (fun v m' => zW E (d) 22 20 [(2, 45), (0, a0), (0, 3), (9, 0), (9, 0)] (if v.1 = 9 then [] else v :: []) m' Q) = Q1
      show zW E (d - 1) 19 0 [(2, 45), (1, f22), (9, 0)] [] m0 Q1
      refine zw_7 zr_19_0 rfl ?_
      obtain ⟨f23, ef23⟩ : ∃ v, m0 45 9 = v := ⟨_, rfl⟩
      have bf23 := ib_45_9 hI0
      rw [ef23] at bf23
      refine zw_46i zr_19_1 ef23 rfl rfl rfl ?_
      refine zw_push zr_19_4 ?_
      refine zw_41_3 zr_19_6 ?_ ?_
      · intro h24
        refine zw_R zr_19_29 (by decide) zm_19 (v := (9, 0)) rfl ?_
        rw [← hQ1]
        show zW E (d) 22 20 [(2, 45), (0, a0), (0, 3), (9, 0), (9, 0)] [] m0 Q
        refine zw_R zr_22_20 (by decide) zm_22 (v := (9, 0)) rfl ?_
        rw [← hQ]; exact ⟨rfl, hI0, hF0⟩
      · intro h25
        refine zw_7 zr_19_9 rfl ?_
        refine zw_46r (s := 49) zr_19_10 rfl rfl rfl rfl ?_
        refine zw_7 zr_19_13 rfl ?_
        refine zw_46i zr_19_14 ef23 rfl rfl rfl ?_
        refine zw_5 zr_19_17 rfl ?_
        refine zw_51 (c := 49) (len := 50) zr_19_18 rfl rfl (by omega) (by omega) ?_
        intro m26 em26
        have hIm26 : zInv m26 := by rw [em26]; exact hI0.anyl (by omega) (zK3 rfl) rfl (by decide) (by decide)
        have hFm26 : zFr W_22 m0 m26 := by rw [em26]; exact hF0.any rfl
        have km26_46_3 : m26 46 3 = f22 := by rw [em26, zUp_ne (by omega)]; exact ef22
        have km26_45_9 : m26 45 9 = f23 := by rw [em26, zUp_ne (by omega)]; exact ef23
        clear em26
        refine zw_7 zr_19_19 rfl ?_
        refine zw_43 zr_19_20 rfl ?_
        refine zw_46i zr_19_21 km26_45_9 rfl rfl rfl ?_
        refine zw_push zr_19_24 ?_
        refine zw_16 zr_19_25 (by omega) ?_
        refine zw_47 (c := 45) zr_19_26 rfl ⟨rfl, by decide, rfl⟩ ?_
        intro m27 em27
        have hIm27 : zInv m27 := by rw [em27]; exact hIm26.bd (r := 45) (k := 9) (lo := 0) (hi := 50) rfl (by omega) (by decide) (by decide) (by decide)
        have hFm27 : zFr W_22 m0 m27 := by rw [em27]; exact hFm26.up rfl
        have km27_46_3 : m27 46 3 = f22 := by rw [em27, zUp_ne (by omega)]; exact km26_46_3
        have km27_45_9 : m27 45 9 = (f23 + 1) := by rw [em27]; exact zUp_eq _ _ _ _
        clear em27
        refine zw_R zr_19_29 (by decide) zm_19 (v := (9, 0)) rfl ?_
        rw [← hQ1]
        show zW E (d) 22 20 [(2, 45), (0, a0), (0, 3), (9, 0), (9, 0)] [] m27 Q
        refine zw_R zr_22_20 (by decide) zm_22 (v := (9, 0)) rfl ?_
        rw [← hQ]; exact ⟨rfl, hIm27, hFm27⟩
  by_cases h28 : a0 = 111
  · refine zw_112 (off := 61) (t := 62) zr_10_1 (by rw [h28]; rfl) rfl ?_
    refine zw_push zr_10_62 ?_
    refine zw_R zr_10_63 (by decide) zm_10 (v := (0, 1)) rfl ?_
    rw [← hQ1]
    show zW E (d) 22 4 [(2, 45), (0, a0), (9, 0), (9, 0), (9, 0)] [(0, 1)] m0 Q
    refine zw_9 (L' := [(2, 45), (0, a0), (0, 1), (9, 0), (9, 0)]) zr_22_4 (Nat.le_of_ble_eq_true rfl) rfl ?_
    refine zw_3 zr_22_5 rfl ?_
    refine zw_push zr_22_6 ?_
    refine zw_41_1 zr_22_7 ?_ ?_
    · intro h29; omega
    · intro h30
      refine zw_7 zr_22_10 rfl ?_
      refine zw_7 zr_22_11 rfl ?_
      refine zw_46r (s := 46) zr_22_12 rfl rfl rfl rfl ?_
      refine zw_3 zr_22_15 rfl ?_
      obtain ⟨f31, ef31⟩ : ∃ v, m0 46 1 = v := ⟨_, rfl⟩
      have bf31 : (-9223372036854775808) ≤ m0 46 1 ∧ m0 46 1 ≤ 9223372036854775807 := hI0.rl (c := 46) (len := 6) rfl (by omega)
      rw [ef31] at bf31
      refine zw_50k (c := 46) (len := 6) zr_22_16 rfl rfl (by omega) (by omega) (show (1 : Int).toNat = 1 by omega) ef31 ?_
      refine zw_C zr_22_17 (Or.inl rfl) zm_19 rfl rfl ⟨Nat.le_of_ble_eq_true rfl, Nat.le_of_ble_eq_true rfl, Nat.le_of_ble_eq_true rfl, rfl, by decide⟩ (by omega) (P := (fun v m' => zW E (d) 22 20 [(2, 45), (0, a0), (0, 1), (9, 0), (9, 0)] (if v.1 = 9 then [] else v :: []) m' Q)) ?_ (fun _ _ h => h)
      generalize hQ1 : (fun v m' => zW E (d) 22 20 [(2, 45), (0, a0), (0, 1), (9, 0), (9, 0)] (if v.1 = 9 then [] else v :: []) m' Q) = Q1
      show zW E (d - 1) 19 0 [(2, 45), (1, f31), (9, 0)] [] m0 Q1
      refine zw_7 zr_19_0 rfl ?_
      obtain ⟨f32, ef32⟩ : ∃ v, m0 45 9 = v := ⟨_, rfl⟩
      have bf32 := ib_45_9 hI0
      rw [ef32] at bf32
      refine zw_46i zr_19_1 ef32 rfl rfl rfl ?_
      refine zw_push zr_19_4 ?_
      refine zw_41_3 zr_19_6 ?_ ?_
      · intro h33
        refine zw_R zr_19_29 (by decide) zm_19 (v := (9, 0)) rfl ?_
        rw [← hQ1]
        show zW E (d) 22 20 [(2, 45), (0, a0), (0, 1), (9, 0), (9, 0)] [] m0 Q
        refine zw_R zr_22_20 (by decide) zm_22 (v := (9, 0)) rfl ?_
        rw [← hQ]; exact ⟨rfl, hI0, hF0⟩
      · intro h34
        refine zw_7 zr_19_9 rfl ?_
        refine zw_46r (s := 49) zr_19_10 rfl rfl rfl rfl ?_
        refine zw_7 zr_19_13 rfl ?_
        refine zw_46i zr_19_14 ef32 rfl rfl rfl ?_
        refine zw_5 zr_19_17 rfl ?_
        refine zw_51 (c := 49) (len := 50) zr_19_18 rfl rfl (by omega) (by omega) ?_
        intro m35 em35
        have hIm35 : zInv m35 := by rw [em35]; exact hI0.anyl (by omega) (zK3 rfl) rfl (by decide) (by decide)
        have hFm35 : zFr W_22 m0 m35 := by rw [em35]; exact hF0.any rfl
        have km35_46_1 : m35 46 1 = f31 := by rw [em35, zUp_ne (by omega)]; exact ef31
        have km35_45_9 : m35 45 9 = f32 := by rw [em35, zUp_ne (by omega)]; exact ef32
        clear em35
        refine zw_7 zr_19_19 rfl ?_
        refine zw_43 zr_19_20 rfl ?_
        refine zw_46i zr_19_21 km35_45_9 rfl rfl rfl ?_
        refine zw_push zr_19_24 ?_
        refine zw_16 zr_19_25 (by omega) ?_
        refine zw_47 (c := 45) zr_19_26 rfl ⟨rfl, by decide, rfl⟩ ?_
        intro m36 em36
        have hIm36 : zInv m36 := by rw [em36]; exact hIm35.bd (r := 45) (k := 9) (lo := 0) (hi := 50) rfl (by omega) (by decide) (by decide) (by decide)
        have hFm36 : zFr W_22 m0 m36 := by rw [em36]; exact hFm35.up rfl
        have km36_46_1 : m36 46 1 = f31 := by rw [em36, zUp_ne (by omega)]; exact km35_46_1
        have km36_45_9 : m36 45 9 = (f32 + 1) := by rw [em36]; exact zUp_eq _ _ _ _
        clear em36
        refine zw_R zr_19_29 (by decide) zm_19 (v := (9, 0)) rfl ?_
        rw [← hQ1]
        show zW E (d) 22 20 [(2, 45), (0, a0), (0, 1), (9, 0), (9, 0)] [] m36 Q
        refine zw_R zr_22_20 (by decide) zm_22 (v := (9, 0)) rfl ?_
        rw [← hQ]; exact ⟨rfl, hIm36, hFm36⟩
  by_cases h37 : a0 = 120
  · refine zw_112 (off := 59) (t := 60) zr_10_1 (by rw [h37]; rfl) rfl ?_
    refine zw_push zr_10_60 ?_
    refine zw_R zr_10_61 (by decide) zm_10 (v := (0, 0)) rfl ?_
    rw [← hQ1]
    show zW E (d) 22 4 [(2, 45), (0, a0), (9, 0), (9, 0), (9, 0)] [(0, 0)] m0 Q
    refine zw_9 (L' := [(2, 45), (0, a0), (0, 0), (9, 0), (9, 0)]) zr_22_4 (Nat.le_of_ble_eq_true rfl) rfl ?_
    refine zw_3 zr_22_5 rfl ?_
    refine zw_push zr_22_6 ?_
    refine zw_41_1 zr_22_7 ?_ ?_
    · intro h38; omega
    · intro h39
      refine zw_7 zr_22_10 rfl ?_
      refine zw_7 zr_22_11 rfl ?_
      refine zw_46r (s := 46) zr_22_12 rfl rfl rfl rfl ?_
      refine zw_3 zr_22_15 rfl ?_
      obtain ⟨f40, ef40⟩ : ∃ v, m0 46 0 = v := ⟨_, rfl⟩
      have bf40 : (-9223372036854775808) ≤ m0 46 0 ∧ m0 46 0 ≤ 9223372036854775807 := hI0.rl (c := 46) (len := 6) rfl (by omega)
      rw [ef40] at bf40
      refine zw_50k (c := 46) (len := 6) zr_22_16 rfl rfl (by omega) (by omega) (show (0 : Int).toNat = 0 by omega) ef40 ?_
      refine zw_C zr_22_17 (Or.inl rfl) zm_19 rfl rfl ⟨Nat.le_of_ble_eq_true rfl, Nat.le_of_ble_eq_true rfl, Nat.le_of_ble_eq_true rfl, rfl, by decide⟩ (by omega) (P := (fun v m' => zW E (d) 22 20 [(2, 45), (0, a0), (0, 0), (9, 0), (9, 0)] (if v.1 = 9 then [] else v :: []) m' Q)) ?_ (fun _ _ h => h)
      generalize hQ1 : (fun v m' => zW E (d) 22 20 [(2, 45), (0, a0), (0, 0), (9, 0), (9, 0)] (if v.1 = 9 then [] else v :: []) m' Q) = Q1
      show zW E (d - 1) 19 0 [(2, 45), (1, f40), (9, 0)] [] m0 Q1
      refine zw_7 zr_19_0 rfl ?_
      obtain ⟨f41, ef41⟩ : ∃ v, m0 45 9 = v := ⟨_, rfl⟩
      have bf41 := ib_45_9 hI0
      rw [ef41] at bf41
      refine zw_46i zr_19_1 ef41 rfl rfl rfl ?_
      refine zw_push zr_19_4 ?_
      refine zw_41_3 zr_19_6 ?_ ?_
      · intro h42
        refine zw_R zr_19_29 (by decide) zm_19 (v := (9, 0)) rfl ?_
        rw [← hQ1]
        show zW E (d) 22 20 [(2, 45), (0, a0), (0, 0), (9, 0), (9, 0)] [] m0 Q
        refine zw_R zr_22_20 (by decide) zm_22 (v := (9, 0)) rfl ?_
        rw [← hQ]; exact ⟨rfl, hI0, hF0⟩
      · intro h43
        refine zw_7 zr_19_9 rfl ?_
        refine zw_46r (s := 49) zr_19_10 rfl rfl rfl rfl ?_
        refine zw_7 zr_19_13 rfl ?_
        refine zw_46i zr_19_14 ef41 rfl rfl rfl ?_
        refine zw_5 zr_19_17 rfl ?_
        refine zw_51 (c := 49) (len := 50) zr_19_18 rfl rfl (by omega) (by omega) ?_
        intro m44 em44
        have hIm44 : zInv m44 := by rw [em44]; exact hI0.anyl (by omega) (zK3 rfl) rfl (by decide) (by decide)
        have hFm44 : zFr W_22 m0 m44 := by rw [em44]; exact hF0.any rfl
        have km44_46_0 : m44 46 0 = f40 := by rw [em44, zUp_ne (by omega)]; exact ef40
        have km44_45_9 : m44 45 9 = f41 := by rw [em44, zUp_ne (by omega)]; exact ef41
        clear em44
        refine zw_7 zr_19_19 rfl ?_
        refine zw_43 zr_19_20 rfl ?_
        refine zw_46i zr_19_21 km44_45_9 rfl rfl rfl ?_
        refine zw_push zr_19_24 ?_
        refine zw_16 zr_19_25 (by omega) ?_
        refine zw_47 (c := 45) zr_19_26 rfl ⟨rfl, by decide, rfl⟩ ?_
        intro m45 em45
        have hIm45 : zInv m45 := by rw [em45]; exact hIm44.bd (r := 45) (k := 9) (lo := 0) (hi := 50) rfl (by omega) (by decide) (by decide) (by decide)
        have hFm45 : zFr W_22 m0 m45 := by rw [em45]; exact hFm44.up rfl
        have km45_46_0 : m45 46 0 = f40 := by rw [em45, zUp_ne (by omega)]; exact km44_46_0
        have km45_45_9 : m45 45 9 = (f41 + 1) := by rw [em45]; exact zUp_eq _ _ _ _
        clear em45
        refine zw_R zr_19_29 (by decide) zm_19 (v := (9, 0)) rfl ?_
        rw [← hQ1]
        show zW E (d) 22 20 [(2, 45), (0, a0), (0, 0), (9, 0), (9, 0)] [] m45 Q
        refine zw_R zr_22_20 (by decide) zm_22 (v := (9, 0)) rfl ?_
        rw [← hQ]; exact ⟨rfl, hIm45, hFm45⟩
  by_cases h46 : a0 = 121
  · refine zw_112 (off := 67) (t := 68) zr_10_1 (by rw [h46]; rfl) rfl ?_
    refine zw_push zr_10_68 ?_
    refine zw_R zr_10_69 (by decide) zm_10 (v := (0, 4)) rfl ?_
    rw [← hQ1]
    show zW E (d) 22 4 [(2, 45), (0, a0), (9, 0), (9, 0), (9, 0)] [(0, 4)] m0 Q
    refine zw_9 (L' := [(2, 45), (0, a0), (0, 4), (9, 0), (9, 0)]) zr_22_4 (Nat.le_of_ble_eq_true rfl) rfl ?_
    refine zw_3 zr_22_5 rfl ?_
    refine zw_push zr_22_6 ?_
    refine zw_41_1 zr_22_7 ?_ ?_
    · intro h47; omega
    · intro h48
      refine zw_7 zr_22_10 rfl ?_
      refine zw_7 zr_22_11 rfl ?_
      refine zw_46r (s := 46) zr_22_12 rfl rfl rfl rfl ?_
      refine zw_3 zr_22_15 rfl ?_
      obtain ⟨f49, ef49⟩ : ∃ v, m0 46 4 = v := ⟨_, rfl⟩
      have bf49 : (-9223372036854775808) ≤ m0 46 4 ∧ m0 46 4 ≤ 9223372036854775807 := hI0.rl (c := 46) (len := 6) rfl (by omega)
      rw [ef49] at bf49
      refine zw_50k (c := 46) (len := 6) zr_22_16 rfl rfl (by omega) (by omega) (show (4 : Int).toNat = 4 by omega) ef49 ?_
      refine zw_C zr_22_17 (Or.inl rfl) zm_19 rfl rfl ⟨Nat.le_of_ble_eq_true rfl, Nat.le_of_ble_eq_true rfl, Nat.le_of_ble_eq_true rfl, rfl, by decide⟩ (by omega) (P := (fun v m' => zW E (d) 22 20 [(2, 45), (0, a0), (0, 4), (9, 0), (9, 0)] (if v.1 = 9 then [] else v :: []) m' Q)) ?_ (fun _ _ h => h)
      generalize hQ1 : (fun v m' => zW E (d) 22 20 [(2, 45), (0, a0), (0, 4), (9, 0), (9, 0)] (if v.1 = 9 then [] else v :: []) m' Q) = Q1
      show zW E (d - 1) 19 0 [(2, 45), (1, f49), (9, 0)] [] m0 Q1
      refine zw_7 zr_19_0 rfl ?_
      obtain ⟨f50, ef50⟩ : ∃ v, m0 45 9 = v := ⟨_, rfl⟩
      have bf50 := ib_45_9 hI0
      rw [ef50] at bf50
      refine zw_46i zr_19_1 ef50 rfl rfl rfl ?_
      refine zw_push zr_19_4 ?_
      refine zw_41_3 zr_19_6 ?_ ?_
      · intro h51
        refine zw_R zr_19_29 (by decide) zm_19 (v := (9, 0)) rfl ?_
        rw [← hQ1]
        show zW E (d) 22 20 [(2, 45), (0, a0), (0, 4), (9, 0), (9, 0)] [] m0 Q
        refine zw_R zr_22_20 (by decide) zm_22 (v := (9, 0)) rfl ?_
        rw [← hQ]; exact ⟨rfl, hI0, hF0⟩
      · intro h52
        refine zw_7 zr_19_9 rfl ?_
        refine zw_46r (s := 49) zr_19_10 rfl rfl rfl rfl ?_
        refine zw_7 zr_19_13 rfl ?_
        refine zw_46i zr_19_14 ef50 rfl rfl rfl ?_
        refine zw_5 zr_19_17 rfl ?_
        refine zw_51 (c := 49) (len := 50) zr_19_18 rfl rfl (by omega) (by omega) ?_
        intro m53 em53
        have hIm53 : zInv m53 := by rw [em53]; exact hI0.anyl (by omega) (zK3 rfl) rfl (by decide) (by decide)
        have hFm53 : zFr W_22 m0 m53 := by rw [em53]; exact hF0.any rfl
        have km53_46_4 : m53 46 4 = f49 := by rw [em53, zUp_ne (by omega)]; exact ef49
        have km53_45_9 : m53 45 9 = f50 := by rw [em53, zUp_ne (by omega)]; exact ef50
        clear em53
        refine zw_7 zr_19_19 rfl ?_
        refine zw_43 zr_19_20 rfl ?_
        refine zw_46i zr_19_21 km53_45_9 rfl rfl rfl ?_
        refine zw_push zr_19_24 ?_
        refine zw_16 zr_19_25 (by omega) ?_
        refine zw_47 (c := 45) zr_19_26 rfl ⟨rfl, by decide, rfl⟩ ?_
        intro m54 em54
        have hIm54 : zInv m54 := by rw [em54]; exact hIm53.bd (r := 45) (k := 9) (lo := 0) (hi := 50) rfl (by omega) (by decide) (by decide) (by decide)
        have hFm54 : zFr W_22 m0 m54 := by rw [em54]; exact hFm53.up rfl
        have km54_46_4 : m54 46 4 = f49 := by rw [em54, zUp_ne (by omega)]; exact km53_46_4
        have km54_45_9 : m54 45 9 = (f50 + 1) := by rw [em54]; exact zUp_eq _ _ _ _
        clear em54
        refine zw_R zr_19_29 (by decide) zm_19 (v := (9, 0)) rfl ?_
        rw [← hQ1]
        show zW E (d) 22 20 [(2, 45), (0, a0), (0, 4), (9, 0), (9, 0)] [] m54 Q
        refine zw_R zr_22_20 (by decide) zm_22 (v := (9, 0)) rfl ?_
        rw [← hQ]; exact ⟨rfl, hIm54, hFm54⟩
  refine zw_112 (off := 71) (t := 72) zr_10_1 (zlsw_df (by simp; omega)) rfl ?_
  refine zw_push zr_10_72 ?_
  refine zw_R zr_10_73 (by decide) zm_10 (v := (0, (-1))) rfl ?_
  rw [← hQ1]
  show zW E (d) 22 4 [(2, 45), (0, a0), (9, 0), (9, 0), (9, 0)] [(0, (-1))] m0 Q
  refine zw_9 (L' := [(2, 45), (0, a0), (0, (-1)), (9, 0), (9, 0)]) zr_22_4 (Nat.le_of_ble_eq_true rfl) rfl ?_
  refine zw_3 zr_22_5 rfl ?_
  refine zw_push zr_22_6 ?_
  refine zw_41_1 zr_22_7 ?_ ?_
  · intro h55
    refine zw_7 zr_22_21 rfl ?_
    refine zw_C zr_22_22 (Or.inl rfl) zm_20 rfl rfl ⟨Nat.le_of_ble_eq_true rfl, Nat.le_of_ble_eq_true rfl, Nat.le_of_ble_eq_true rfl, rfl, by decide⟩ (by omega) (P := (fun v m' => zW E (d) 22 25 [(2, 45), (0, a0), (0, (-1)), (9, 0), (9, 0)] (if v.1 = 9 then [] else v :: []) m' Q)) ?_ (fun _ _ h => h)
    generalize hQ1 : (fun v m' => zW E (d) 22 25 [(2, 45), (0, a0), (0, (-1)), (9, 0), (9, 0)] (if v.1 = 9 then [] else v :: []) m' Q) = Q1
    show zW E (d - 1) 20 0 [(2, 45)] [] m0 Q1
    refine zw_7 zr_20_0 rfl ?_
    obtain ⟨f56, ef56⟩ : ∃ v, m0 45 9 = v := ⟨_, rfl⟩
    have bf56 := ib_45_9 hI0
    rw [ef56] at bf56
    refine zw_46i zr_20_1 ef56 rfl rfl rfl ?_
    refine zw_40_2 zr_20_4 ?_ ?_
    · intro h57
      refine zw_7 zr_20_9 rfl ?_
      refine zw_43 zr_20_10 rfl ?_
      refine zw_46i zr_20_11 ef56 rfl rfl rfl ?_
      refine zw_push zr_20_14 ?_
      refine zw_17 zr_20_15 (by omega) ?_
      refine zw_47 (c := 45) zr_20_16 rfl ⟨rfl, by decide, rfl⟩ ?_
      intro m58 em58
      have hIm58 : zInv m58 := by rw [em58]; exact hI0.bd (r := 45) (k := 9) (lo := 0) (hi := 50) rfl (by omega) (by decide) (by decide) (by decide)
      have hFm58 : zFr W_22 m0 m58 := by rw [em58]; exact hF0.up rfl
      have km58_45_9 : m58 45 9 = (f56 - 1) := by rw [em58]; exact zUp_eq _ _ _ _
      clear em58
      refine zw_7 zr_20_19 rfl ?_
      refine zw_46r (s := 49) zr_20_20 rfl rfl rfl rfl ?_
      refine zw_7 zr_20_23 rfl ?_
      refine zw_46i zr_20_24 km58_45_9 rfl rfl rfl ?_
      refine zw_50 (c := 49) (len := 50) zr_20_27 rfl rfl (by omega) (by omega) ?_
      intro x59 ex59
      have bx59 := hIm58.rl (c := 49) (len := 50) (k := ((f56 - 1)).toNat) rfl (by omega)
      rw [← ex59] at bx59
      clear ex59
      refine zw_R zr_20_28 (by decide) zm_20 (v := (1, x59)) rfl ?_
      rw [← hQ1]
      show zW E (d) 22 25 [(2, 45), (0, a0), (0, (-1)), (9, 0), (9, 0)] [(1, x59)] m58 Q
      refine zw_13 (L' := [(2, 45), (0, a0), (0, (-1)), (1, x59), (9, 0)]) zr_22_25 (Nat.le_of_ble_eq_true rfl) rfl ?_
      refine zw_3 zr_22_26 rfl ?_
      refine zw_push zr_22_27 ?_
      refine zw_41_4 zr_22_29 ?_ ?_
      · intro h60
        refine zw_3 zr_22_50 rfl ?_
        refine zw_push zr_22_51 ?_
        refine zw_41_4 zr_22_53 ?_ ?_
        · intro h61
          refine zw_7 zr_22_65 rfl ?_
          refine zw_7 zr_22_66 rfl ?_
          refine zw_C zr_22_67 (Or.inl rfl) zm_20 rfl rfl ⟨Nat.le_of_ble_eq_true rfl, Nat.le_of_ble_eq_true rfl, Nat.le_of_ble_eq_true rfl, rfl, by decide⟩ (by omega) (P := (fun v m' => zW E (d) 22 70 [(2, 45), (0, a0), (0, (-1)), (1, x59), (9, 0)] (if v.1 = 9 then [(2, 45)] else v :: [(2, 45)]) m' Q)) ?_ (fun _ _ h => h)
          generalize hQ1 : (fun v m' => zW E (d) 22 70 [(2, 45), (0, a0), (0, (-1)), (1, x59), (9, 0)] (if v.1 = 9 then [(2, 45)] else v :: [(2, 45)]) m' Q) = Q1
          show zW E (d - 1) 20 0 [(2, 45)] [] m58 Q1
          refine zw_7 zr_20_0 rfl ?_
          refine zw_46i zr_20_1 km58_45_9 rfl rfl rfl ?_
          refine zw_40_2 zr_20_4 ?_ ?_
          · intro h62
            refine zw_7 zr_20_9 rfl ?_
            refine zw_43 zr_20_10 rfl ?_
            refine zw_46i zr_20_11 km58_45_9 rfl rfl rfl ?_
            refine zw_push zr_20_14 ?_
            refine zw_17 zr_20_15 (by omega) ?_
            refine zw_47 (c := 45) zr_20_16 rfl ⟨rfl, by decide, rfl⟩ ?_
            intro m63 em63
            have hIm63 : zInv m63 := by rw [em63]; exact hIm58.bd (r := 45) (k := 9) (lo := 0) (hi := 50) rfl (by omega) (by decide) (by decide) (by decide)
            have hFm63 : zFr W_22 m0 m63 := by rw [em63]; exact hFm58.up rfl
            have km63_45_9 : m63 45 9 = ((f56 - 1) - 1) := by rw [em63]; exact zUp_eq _ _ _ _
            clear em63
            refine zw_7 zr_20_19 rfl ?_
            refine zw_46r (s := 49) zr_20_20 rfl rfl rfl rfl ?_
            refine zw_7 zr_20_23 rfl ?_
            refine zw_46i zr_20_24 km63_45_9 rfl rfl rfl ?_
            refine zw_50 (c := 49) (len := 50) zr_20_27 rfl rfl (by omega) (by omega) ?_
            intro x64 ex64
            have bx64 := hIm63.rl (c := 49) (len := 50) (k := (((f56 - 1) - 1)).toNat) rfl (by omega)
            rw [← ex64] at bx64
            clear ex64
            refine zw_R zr_20_28 (by decide) zm_20 (v := (1, x64)) rfl ?_
            rw [← hQ1]
            show zW E (d) 22 70 [(2, 45), (0, a0), (0, (-1)), (1, x59), (9, 0)] [(1, x64), (2, 45)] m63 Q
            refine zw_3 zr_22_70 rfl ?_
            refine zw_5 zr_22_71 rfl ?_
            refine zw_C zr_22_72 (Or.inr rfl) zm_21 rfl rfl ⟨Nat.le_of_ble_eq_true rfl, Nat.le_of_ble_eq_true rfl, Nat.le_of_ble_eq_true rfl, rfl, by decide⟩ (by omega) (th_21 (d := d - 1) (by omega) hIm63 (a0 := x64) (a1 := a0) (a2 := x59)      (by omega) (by omega) (by omega) ) ?_
            rintro _ _ ⟨r65, rfl, hr65a, hr65b, rfl⟩
            show zW E (d) 22 75 [(2, 45), (0, a0), (0, (-1)), (1, x59), (9, 0)] [(1, r65), (2, 45)] m63 Q
            refine zw_C zr_22_75 (Or.inl rfl) zm_19 rfl rfl ⟨Nat.le_of_ble_eq_true rfl, Nat.le_of_ble_eq_true rfl, Nat.le_of_ble_eq_true rfl, rfl, by decide⟩ (by omega) (P := (fun v m' => zW E (d) 22 78 [(2, 45), (0, a0), (0, (-1)), (1, x59), (9, 0)] (if v.1 = 9 then [] else v :: []) m' Q)) ?_ (fun _ _ h => h)
            generalize hQ1 : (fun v m' => zW E (d) 22 78 [(2, 45), (0, a0), (0, (-1)), (1, x59), (9, 0)] (if v.1 = 9 then [] else v :: []) m' Q) = Q1
            show zW E (d - 1) 19 0 [(2, 45), (1, r65), (9, 0)] [] m63 Q1
            refine zw_7 zr_19_0 rfl ?_
            refine zw_46i zr_19_1 km63_45_9 rfl rfl rfl ?_
            refine zw_push zr_19_4 ?_
            refine zw_41_3 zr_19_6 ?_ ?_
            · intro h66; omega
            · intro h67
              refine zw_7 zr_19_9 rfl ?_
              refine zw_46r (s := 49) zr_19_10 rfl rfl rfl rfl ?_
              refine zw_7 zr_19_13 rfl ?_
              refine zw_46i zr_19_14 km63_45_9 rfl rfl rfl ?_
              refine zw_5 zr_19_17 rfl ?_
              refine zw_51 (c := 49) (len := 50) zr_19_18 rfl rfl (by omega) (by omega) ?_
              intro m68 em68
              have hIm68 : zInv m68 := by rw [em68]; exact hIm63.anyl (by omega) (zK3 rfl) rfl (by decide) (by decide)
              have hFm68 : zFr W_22 m0 m68 := by rw [em68]; exact hFm63.any rfl
              have km68_45_9 : m68 45 9 = ((f56 - 1) - 1) := by rw [em68, zUp_ne (by omega)]; exact km63_45_9
              clear em68
              refine zw_7 zr_19_19 rfl ?_
              refine zw_43 zr_19_20 rfl ?_
              refine zw_46i zr_19_21 km68_45_9 rfl rfl rfl ?_
              refine zw_push zr_19_24 ?_
              refine zw_16 zr_19_25 (by omega) ?_
              refine zw_47 (c := 45) zr_19_26 rfl ⟨rfl, by decide, rfl⟩ ?_
              intro m69 em69
              have hIm69 : zInv m69 := by rw [em69]; exact hIm68.bd (r := 45) (k := 9) (lo := 0) (hi := 50) rfl (by omega) (by decide) (by decide) (by decide)
              have hFm69 : zFr W_22 m0 m69 := by rw [em69]; exact hFm68.up rfl
              have km69_45_9 : m69 45 9 = (((f56 - 1) - 1) + 1) := by rw [em69]; exact zUp_eq _ _ _ _
              clear em69
              refine zw_R zr_19_29 (by decide) zm_19 (v := (9, 0)) rfl ?_
              rw [← hQ1]
              show zW E (d) 22 78 [(2, 45), (0, a0), (0, (-1)), (1, x59), (9, 0)] [] m69 Q
              refine zw_R zr_22_78 (by decide) zm_22 (v := (9, 0)) rfl ?_
              rw [← hQ]; exact ⟨rfl, hIm69, hFm69⟩
          · intro h70
            refine zw_push zr_20_7 ?_
            refine zw_R zr_20_8 (by decide) zm_20 (v := (1, 0)) rfl ?_
            rw [← hQ1]
            show zW E (d) 22 70 [(2, 45), (0, a0), (0, (-1)), (1, x59), (9, 0)] [(1, 0), (2, 45)] m58 Q
            refine zw_3 zr_22_70 rfl ?_
            refine zw_5 zr_22_71 rfl ?_
            refine zw_C zr_22_72 (Or.inr rfl) zm_21 rfl rfl ⟨Nat.le_of_ble_eq_true rfl, Nat.le_of_ble_eq_true rfl, Nat.le_of_ble_eq_true rfl, rfl, by decide⟩ (by omega) (th_21 (d := d - 1) (by omega) hIm58 (a0 := 0) (a1 := a0) (a2 := x59)      (by omega) (by omega) (by omega) ) ?_
            rintro _ _ ⟨r71, rfl, hr71a, hr71b, rfl⟩
            show zW E (d) 22 75 [(2, 45), (0, a0), (0, (-1)), (1, x59), (9, 0)] [(1, r71), (2, 45)] m58 Q
            refine zw_C zr_22_75 (Or.inl rfl) zm_19 rfl rfl ⟨Nat.le_of_ble_eq_true rfl, Nat.le_of_ble_eq_true rfl, Nat.le_of_ble_eq_true rfl, rfl, by decide⟩ (by omega) (P := (fun v m' => zW E (d) 22 78 [(2, 45), (0, a0), (0, (-1)), (1, x59), (9, 0)] (if v.1 = 9 then [] else v :: []) m' Q)) ?_ (fun _ _ h => h)
            generalize hQ1 : (fun v m' => zW E (d) 22 78 [(2, 45), (0, a0), (0, (-1)), (1, x59), (9, 0)] (if v.1 = 9 then [] else v :: []) m' Q) = Q1
            show zW E (d - 1) 19 0 [(2, 45), (1, r71), (9, 0)] [] m58 Q1
            refine zw_7 zr_19_0 rfl ?_
            refine zw_46i zr_19_1 km58_45_9 rfl rfl rfl ?_
            refine zw_push zr_19_4 ?_
            refine zw_41_3 zr_19_6 ?_ ?_
            · intro h72; omega
            · intro h73
              refine zw_7 zr_19_9 rfl ?_
              refine zw_46r (s := 49) zr_19_10 rfl rfl rfl rfl ?_
              refine zw_7 zr_19_13 rfl ?_
              refine zw_46i zr_19_14 km58_45_9 rfl rfl rfl ?_
              refine zw_5 zr_19_17 rfl ?_
              refine zw_51 (c := 49) (len := 50) zr_19_18 rfl rfl (by omega) (by omega) ?_
              intro m74 em74
              have hIm74 : zInv m74 := by rw [em74]; exact hIm58.anyl (by omega) (zK3 rfl) rfl (by decide) (by decide)
              have hFm74 : zFr W_22 m0 m74 := by rw [em74]; exact hFm58.any rfl
              have km74_45_9 : m74 45 9 = (f56 - 1) := by rw [em74, zUp_ne (by omega)]; exact km58_45_9
              clear em74
              refine zw_7 zr_19_19 rfl ?_
              refine zw_43 zr_19_20 rfl ?_
              refine zw_46i zr_19_21 km74_45_9 rfl rfl rfl ?_
              refine zw_push zr_19_24 ?_
              refine zw_16 zr_19_25 (by omega) ?_
              refine zw_47 (c := 45) zr_19_26 rfl ⟨rfl, by decide, rfl⟩ ?_
              intro m75 em75
              have hIm75 : zInv m75 := by rw [em75]; exact hIm74.bd (r := 45) (k := 9) (lo := 0) (hi := 50) rfl (by omega) (by decide) (by decide) (by decide)
              have hFm75 : zFr W_22 m0 m75 := by rw [em75]; exact hFm74.up rfl
              have km75_45_9 : m75 45 9 = ((f56 - 1) + 1) := by rw [em75]; exact zUp_eq _ _ _ _
              clear em75
              refine zw_R zr_19_29 (by decide) zm_19 (v := (9, 0)) rfl ?_
              rw [← hQ1]
              show zW E (d) 22 78 [(2, 45), (0, a0), (0, (-1)), (1, x59), (9, 0)] [] m75 Q
              refine zw_R zr_22_78 (by decide) zm_22 (v := (9, 0)) rfl ?_
              rw [← hQ]; exact ⟨rfl, hIm75, hFm75⟩
        · intro h76
          refine zw_7 zr_22_56 rfl ?_
          refine zw_5 zr_22_57 rfl ?_
          refine zw_117h zr_22_58 ?_
          intro x77 hx77a hx77b
          refine zw_C zr_22_59 (Or.inl rfl) zm_19 rfl rfl ⟨Nat.le_of_ble_eq_true rfl, Nat.le_of_ble_eq_true rfl, Nat.le_of_ble_eq_true rfl, rfl, by decide⟩ (by omega) (P := (fun v m' => zW E (d) 22 62 [(2, 45), (0, a0), (0, (-1)), (1, x59), (9, 0)] (if v.1 = 9 then [] else v :: []) m' Q)) ?_ (fun _ _ h => h)
          generalize hQ1 : (fun v m' => zW E (d) 22 62 [(2, 45), (0, a0), (0, (-1)), (1, x59), (9, 0)] (if v.1 = 9 then [] else v :: []) m' Q) = Q1
          show zW E (d - 1) 19 0 [(2, 45), (1, x77), (9, 0)] [] m58 Q1
          refine zw_7 zr_19_0 rfl ?_
          refine zw_46i zr_19_1 km58_45_9 rfl rfl rfl ?_
          refine zw_push zr_19_4 ?_
          refine zw_41_3 zr_19_6 ?_ ?_
          · intro h78; omega
          · intro h79
            refine zw_7 zr_19_9 rfl ?_
            refine zw_46r (s := 49) zr_19_10 rfl rfl rfl rfl ?_
            refine zw_7 zr_19_13 rfl ?_
            refine zw_46i zr_19_14 km58_45_9 rfl rfl rfl ?_
            refine zw_5 zr_19_17 rfl ?_
            refine zw_51 (c := 49) (len := 50) zr_19_18 rfl rfl (by omega) (by omega) ?_
            intro m80 em80
            have hIm80 : zInv m80 := by rw [em80]; exact hIm58.anyl (by omega) (zK3 rfl) rfl (by decide) (by decide)
            have hFm80 : zFr W_22 m0 m80 := by rw [em80]; exact hFm58.any rfl
            have km80_45_9 : m80 45 9 = (f56 - 1) := by rw [em80, zUp_ne (by omega)]; exact km58_45_9
            clear em80
            refine zw_7 zr_19_19 rfl ?_
            refine zw_43 zr_19_20 rfl ?_
            refine zw_46i zr_19_21 km80_45_9 rfl rfl rfl ?_
            refine zw_push zr_19_24 ?_
            refine zw_16 zr_19_25 (by omega) ?_
            refine zw_47 (c := 45) zr_19_26 rfl ⟨rfl, by decide, rfl⟩ ?_
            intro m81 em81
            have hIm81 : zInv m81 := by rw [em81]; exact hIm80.bd (r := 45) (k := 9) (lo := 0) (hi := 50) rfl (by omega) (by decide) (by decide) (by decide)
            have hFm81 : zFr W_22 m0 m81 := by rw [em81]; exact hFm80.up rfl
            have km81_45_9 : m81 45 9 = ((f56 - 1) + 1) := by rw [em81]; exact zUp_eq _ _ _ _
            clear em81
            refine zw_R zr_19_29 (by decide) zm_19 (v := (9, 0)) rfl ?_
            rw [← hQ1]
            show zW E (d) 22 62 [(2, 45), (0, a0), (0, (-1)), (1, x59), (9, 0)] [] m81 Q
            refine zw_42 zr_22_62 ?_
            refine zw_R zr_22_78 (by decide) zm_22 (v := (9, 0)) rfl ?_
            rw [← hQ]; exact ⟨rfl, hIm81, hFm81⟩
      · intro h82
        refine zw_7 zr_22_32 rfl ?_
        refine zw_5 zr_22_33 rfl ?_
        refine zw_push zr_22_34 ?_
        refine zw_39_4 zr_22_35 zr_22_36 ?_ ?_
        · intro h83
          refine zw_push zr_22_43 ?_
          refine zw_C zr_22_44 (Or.inl rfl) zm_19 rfl rfl ⟨Nat.le_of_ble_eq_true rfl, Nat.le_of_ble_eq_true rfl, Nat.le_of_ble_eq_true rfl, rfl, by decide⟩ (by omega) (P := (fun v m' => zW E (d) 22 47 [(2, 45), (0, a0), (0, (-1)), (1, x59), (9, 0)] (if v.1 = 9 then [] else v :: []) m' Q)) ?_ (fun _ _ h => h)
          generalize hQ1 : (fun v m' => zW E (d) 22 47 [(2, 45), (0, a0), (0, (-1)), (1, x59), (9, 0)] (if v.1 = 9 then [] else v :: []) m' Q) = Q1
          show zW E (d - 1) 19 0 [(2, 45), (1, 0), (9, 0)] [] m58 Q1
          refine zw_7 zr_19_0 rfl ?_
          refine zw_46i zr_19_1 km58_45_9 rfl rfl rfl ?_
          refine zw_push zr_19_4 ?_
          refine zw_41_3 zr_19_6 ?_ ?_
          · intro h84; omega
          · intro h85
            refine zw_7 zr_19_9 rfl ?_
            refine zw_46r (s := 49) zr_19_10 rfl rfl rfl rfl ?_
            refine zw_7 zr_19_13 rfl ?_
            refine zw_46i zr_19_14 km58_45_9 rfl rfl rfl ?_
            refine zw_5 zr_19_17 rfl ?_
            refine zw_51 (c := 49) (len := 50) zr_19_18 rfl rfl (by omega) (by omega) ?_
            intro m86 em86
            have hIm86 : zInv m86 := by rw [em86]; exact hIm58.anyl (by omega) (zK3 rfl) rfl (by decide) (by decide)
            have hFm86 : zFr W_22 m0 m86 := by rw [em86]; exact hFm58.any rfl
            have km86_45_9 : m86 45 9 = (f56 - 1) := by rw [em86, zUp_ne (by omega)]; exact km58_45_9
            clear em86
            refine zw_7 zr_19_19 rfl ?_
            refine zw_43 zr_19_20 rfl ?_
            refine zw_46i zr_19_21 km86_45_9 rfl rfl rfl ?_
            refine zw_push zr_19_24 ?_
            refine zw_16 zr_19_25 (by omega) ?_
            refine zw_47 (c := 45) zr_19_26 rfl ⟨rfl, by decide, rfl⟩ ?_
            intro m87 em87
            have hIm87 : zInv m87 := by rw [em87]; exact hIm86.bd (r := 45) (k := 9) (lo := 0) (hi := 50) rfl (by omega) (by decide) (by decide) (by decide)
            have hFm87 : zFr W_22 m0 m87 := by rw [em87]; exact hFm86.up rfl
            have km87_45_9 : m87 45 9 = ((f56 - 1) + 1) := by rw [em87]; exact zUp_eq _ _ _ _
            clear em87
            refine zw_R zr_19_29 (by decide) zm_19 (v := (9, 0)) rfl ?_
            rw [← hQ1]
            show zW E (d) 22 47 [(2, 45), (0, a0), (0, (-1)), (1, x59), (9, 0)] [] m87 Q
            refine zw_42 zr_22_47 ?_
            refine zw_R zr_22_78 (by decide) zm_22 (v := (9, 0)) rfl ?_
            rw [← hQ]; exact ⟨rfl, hIm87, hFm87⟩
        · intro h88
          refine zw_push zr_22_39 ?_
          refine zw_42 zr_22_40 ?_
          refine zw_C zr_22_44 (Or.inl rfl) zm_19 rfl rfl ⟨Nat.le_of_ble_eq_true rfl, Nat.le_of_ble_eq_true rfl, Nat.le_of_ble_eq_true rfl, rfl, by decide⟩ (by omega) (P := (fun v m' => zW E (d) 22 47 [(2, 45), (0, a0), (0, (-1)), (1, x59), (9, 0)] (if v.1 = 9 then [] else v :: []) m' Q)) ?_ (fun _ _ h => h)
          generalize hQ1 : (fun v m' => zW E (d) 22 47 [(2, 45), (0, a0), (0, (-1)), (1, x59), (9, 0)] (if v.1 = 9 then [] else v :: []) m' Q) = Q1
          show zW E (d - 1) 19 0 [(2, 45), (1, 1), (9, 0)] [] m58 Q1
          refine zw_7 zr_19_0 rfl ?_
          refine zw_46i zr_19_1 km58_45_9 rfl rfl rfl ?_
          refine zw_push zr_19_4 ?_
          refine zw_41_3 zr_19_6 ?_ ?_
          · intro h89; omega
          · intro h90
            refine zw_7 zr_19_9 rfl ?_
            refine zw_46r (s := 49) zr_19_10 rfl rfl rfl rfl ?_
            refine zw_7 zr_19_13 rfl ?_
            refine zw_46i zr_19_14 km58_45_9 rfl rfl rfl ?_
            refine zw_5 zr_19_17 rfl ?_
            refine zw_51 (c := 49) (len := 50) zr_19_18 rfl rfl (by omega) (by omega) ?_
            intro m91 em91
            have hIm91 : zInv m91 := by rw [em91]; exact hIm58.anyl (by omega) (zK3 rfl) rfl (by decide) (by decide)
            have hFm91 : zFr W_22 m0 m91 := by rw [em91]; exact hFm58.any rfl
            have km91_45_9 : m91 45 9 = (f56 - 1) := by rw [em91, zUp_ne (by omega)]; exact km58_45_9
            clear em91
            refine zw_7 zr_19_19 rfl ?_
            refine zw_43 zr_19_20 rfl ?_
            refine zw_46i zr_19_21 km91_45_9 rfl rfl rfl ?_
            refine zw_push zr_19_24 ?_
            refine zw_16 zr_19_25 (by omega) ?_
            refine zw_47 (c := 45) zr_19_26 rfl ⟨rfl, by decide, rfl⟩ ?_
            intro m92 em92
            have hIm92 : zInv m92 := by rw [em92]; exact hIm91.bd (r := 45) (k := 9) (lo := 0) (hi := 50) rfl (by omega) (by decide) (by decide) (by decide)
            have hFm92 : zFr W_22 m0 m92 := by rw [em92]; exact hFm91.up rfl
            have km92_45_9 : m92 45 9 = ((f56 - 1) + 1) := by rw [em92]; exact zUp_eq _ _ _ _
            clear em92
            refine zw_R zr_19_29 (by decide) zm_19 (v := (9, 0)) rfl ?_
            rw [← hQ1]
            show zW E (d) 22 47 [(2, 45), (0, a0), (0, (-1)), (1, x59), (9, 0)] [] m92 Q
            refine zw_42 zr_22_47 ?_
            refine zw_R zr_22_78 (by decide) zm_22 (v := (9, 0)) rfl ?_
            rw [← hQ]; exact ⟨rfl, hIm92, hFm92⟩
    · intro h93
      refine zw_push zr_20_7 ?_
      refine zw_R zr_20_8 (by decide) zm_20 (v := (1, 0)) rfl ?_
      rw [← hQ1]
      show zW E (d) 22 25 [(2, 45), (0, a0), (0, (-1)), (9, 0), (9, 0)] [(1, 0)] m0 Q
      refine zw_13 (L' := [(2, 45), (0, a0), (0, (-1)), (1, 0), (9, 0)]) zr_22_25 (Nat.le_of_ble_eq_true rfl) rfl ?_
      refine zw_3 zr_22_26 rfl ?_
      refine zw_push zr_22_27 ?_
      refine zw_41_4 zr_22_29 ?_ ?_
      · intro h94
        refine zw_3 zr_22_50 rfl ?_
        refine zw_push zr_22_51 ?_
        refine zw_41_4 zr_22_53 ?_ ?_
        · intro h95
          refine zw_7 zr_22_65 rfl ?_
          refine zw_7 zr_22_66 rfl ?_
          refine zw_C zr_22_67 (Or.inl rfl) zm_20 rfl rfl ⟨Nat.le_of_ble_eq_true rfl, Nat.le_of_ble_eq_true rfl, Nat.le_of_ble_eq_true rfl, rfl, by decide⟩ (by omega) (P := (fun v m' => zW E (d) 22 70 [(2, 45), (0, a0), (0, (-1)), (1, 0), (9, 0)] (if v.1 = 9 then [(2, 45)] else v :: [(2, 45)]) m' Q)) ?_ (fun _ _ h => h)
          generalize hQ1 : (fun v m' => zW E (d) 22 70 [(2, 45), (0, a0), (0, (-1)), (1, 0), (9, 0)] (if v.1 = 9 then [(2, 45)] else v :: [(2, 45)]) m' Q) = Q1
          show zW E (d - 1) 20 0 [(2, 45)] [] m0 Q1
          refine zw_7 zr_20_0 rfl ?_
          refine zw_46i zr_20_1 ef56 rfl rfl rfl ?_
          refine zw_40_2 zr_20_4 ?_ ?_
          · intro h96; omega
          · intro h97
            refine zw_push zr_20_7 ?_
            refine zw_R zr_20_8 (by decide) zm_20 (v := (1, 0)) rfl ?_
            rw [← hQ1]
            show zW E (d) 22 70 [(2, 45), (0, a0), (0, (-1)), (1, 0), (9, 0)] [(1, 0), (2, 45)] m0 Q
            refine zw_3 zr_22_70 rfl ?_
            refine zw_5 zr_22_71 rfl ?_
            refine zw_C zr_22_72 (Or.inr rfl) zm_21 rfl rfl ⟨Nat.le_of_ble_eq_true rfl, Nat.le_of_ble_eq_true rfl, Nat.le_of_ble_eq_true rfl, rfl, by decide⟩ (by omega) (th_21 (d := d - 1) (by omega) hI0 (a0 := 0) (a1 := a0) (a2 := 0)      (by omega) (by omega) (by omega) ) ?_
            rintro _ _ ⟨r98, rfl, hr98a, hr98b, rfl⟩
            show zW E (d) 22 75 [(2, 45), (0, a0), (0, (-1)), (1, 0), (9, 0)] [(1, r98), (2, 45)] m0 Q
            refine zw_C zr_22_75 (Or.inl rfl) zm_19 rfl rfl ⟨Nat.le_of_ble_eq_true rfl, Nat.le_of_ble_eq_true rfl, Nat.le_of_ble_eq_true rfl, rfl, by decide⟩ (by omega) (P := (fun v m' => zW E (d) 22 78 [(2, 45), (0, a0), (0, (-1)), (1, 0), (9, 0)] (if v.1 = 9 then [] else v :: []) m' Q)) ?_ (fun _ _ h => h)
            generalize hQ1 : (fun v m' => zW E (d) 22 78 [(2, 45), (0, a0), (0, (-1)), (1, 0), (9, 0)] (if v.1 = 9 then [] else v :: []) m' Q) = Q1
            show zW E (d - 1) 19 0 [(2, 45), (1, r98), (9, 0)] [] m0 Q1
            refine zw_7 zr_19_0 rfl ?_
            refine zw_46i zr_19_1 ef56 rfl rfl rfl ?_
            refine zw_push zr_19_4 ?_
            refine zw_41_3 zr_19_6 ?_ ?_
            · intro h99; omega
            · intro h100
              refine zw_7 zr_19_9 rfl ?_
              refine zw_46r (s := 49) zr_19_10 rfl rfl rfl rfl ?_
              refine zw_7 zr_19_13 rfl ?_
              refine zw_46i zr_19_14 ef56 rfl rfl rfl ?_
              refine zw_5 zr_19_17 rfl ?_
              refine zw_51 (c := 49) (len := 50) zr_19_18 rfl rfl (by omega) (by omega) ?_
              intro m101 em101
              have hIm101 : zInv m101 := by rw [em101]; exact hI0.anyl (by omega) (zK3 rfl) rfl (by decide) (by decide)
              have hFm101 : zFr W_22 m0 m101 := by rw [em101]; exact hF0.any rfl
              have km101_45_9 : m101 45 9 = f56 := by rw [em101, zUp_ne (by omega)]; exact ef56
              clear em101
              refine zw_7 zr_19_19 rfl ?_
              refine zw_43 zr_19_20 rfl ?_
              refine zw_46i zr_19_21 km101_45_9 rfl rfl rfl ?_
              refine zw_push zr_19_24 ?_
              refine zw_16 zr_19_25 (by omega) ?_
              refine zw_47 (c := 45) zr_19_26 rfl ⟨rfl, by decide, rfl⟩ ?_
              intro m102 em102
              have hIm102 : zInv m102 := by rw [em102]; exact hIm101.bd (r := 45) (k := 9) (lo := 0) (hi := 50) rfl (by omega) (by decide) (by decide) (by decide)
              have hFm102 : zFr W_22 m0 m102 := by rw [em102]; exact hFm101.up rfl
              have km102_45_9 : m102 45 9 = (f56 + 1) := by rw [em102]; exact zUp_eq _ _ _ _
              clear em102
              refine zw_R zr_19_29 (by decide) zm_19 (v := (9, 0)) rfl ?_
              rw [← hQ1]
              show zW E (d) 22 78 [(2, 45), (0, a0), (0, (-1)), (1, 0), (9, 0)] [] m102 Q
              refine zw_R zr_22_78 (by decide) zm_22 (v := (9, 0)) rfl ?_
              rw [← hQ]; exact ⟨rfl, hIm102, hFm102⟩
        · intro h103
          refine zw_7 zr_22_56 rfl ?_
          refine zw_5 zr_22_57 rfl ?_
          refine zw_117h zr_22_58 ?_
          intro x104 hx104a hx104b
          refine zw_C zr_22_59 (Or.inl rfl) zm_19 rfl rfl ⟨Nat.le_of_ble_eq_true rfl, Nat.le_of_ble_eq_true rfl, Nat.le_of_ble_eq_true rfl, rfl, by decide⟩ (by omega) (P := (fun v m' => zW E (d) 22 62 [(2, 45), (0, a0), (0, (-1)), (1, 0), (9, 0)] (if v.1 = 9 then [] else v :: []) m' Q)) ?_ (fun _ _ h => h)
          generalize hQ1 : (fun v m' => zW E (d) 22 62 [(2, 45), (0, a0), (0, (-1)), (1, 0), (9, 0)] (if v.1 = 9 then [] else v :: []) m' Q) = Q1
          show zW E (d - 1) 19 0 [(2, 45), (1, x104), (9, 0)] [] m0 Q1
          refine zw_7 zr_19_0 rfl ?_
          refine zw_46i zr_19_1 ef56 rfl rfl rfl ?_
          refine zw_push zr_19_4 ?_
          refine zw_41_3 zr_19_6 ?_ ?_
          · intro h105; omega
          · intro h106
            refine zw_7 zr_19_9 rfl ?_
            refine zw_46r (s := 49) zr_19_10 rfl rfl rfl rfl ?_
            refine zw_7 zr_19_13 rfl ?_
            refine zw_46i zr_19_14 ef56 rfl rfl rfl ?_
            refine zw_5 zr_19_17 rfl ?_
            refine zw_51 (c := 49) (len := 50) zr_19_18 rfl rfl (by omega) (by omega) ?_
            intro m107 em107
            have hIm107 : zInv m107 := by rw [em107]; exact hI0.anyl (by omega) (zK3 rfl) rfl (by decide) (by decide)
            have hFm107 : zFr W_22 m0 m107 := by rw [em107]; exact hF0.any rfl
            have km107_45_9 : m107 45 9 = f56 := by rw [em107, zUp_ne (by omega)]; exact ef56
            clear em107
            refine zw_7 zr_19_19 rfl ?_
            refine zw_43 zr_19_20 rfl ?_
            refine zw_46i zr_19_21 km107_45_9 rfl rfl rfl ?_
            refine zw_push zr_19_24 ?_
            refine zw_16 zr_19_25 (by omega) ?_
            refine zw_47 (c := 45) zr_19_26 rfl ⟨rfl, by decide, rfl⟩ ?_
            intro m108 em108
            have hIm108 : zInv m108 := by rw [em108]; exact hIm107.bd (r := 45) (k := 9) (lo := 0) (hi := 50) rfl (by omega) (by decide) (by decide) (by decide)
            have hFm108 : zFr W_22 m0 m108 := by rw [em108]; exact hFm107.up rfl
            have km108_45_9 : m108 45 9 = (f56 + 1) := by rw [em108]; exact zUp_eq _ _ _ _
            clear em108
            refine zw_R zr_19_29 (by decide) zm_19 (v := (9, 0)) rfl ?_
            rw [← hQ1]
            show zW E (d) 22 62 [(2, 45), (0, a0), (0, (-1)), (1, 0), (9, 0)] [] m108 Q
            refine zw_42 zr_22_62 ?_
            refine zw_R zr_22_78 (by decide) zm_22 (v := (9, 0)) rfl ?_
            rw [← hQ]; exact ⟨rfl, hIm108, hFm108⟩
      · intro h109
        refine zw_7 zr_22_32 rfl ?_
        refine zw_5 zr_22_33 rfl ?_
        refine zw_push zr_22_34 ?_
        refine zw_39_4 zr_22_35 zr_22_36 ?_ ?_
        · intro h110; omega
        · intro h111
          refine zw_push zr_22_39 ?_
          refine zw_42 zr_22_40 ?_
          refine zw_C zr_22_44 (Or.inl rfl) zm_19 rfl rfl ⟨Nat.le_of_ble_eq_true rfl, Nat.le_of_ble_eq_true rfl, Nat.le_of_ble_eq_true rfl, rfl, by decide⟩ (by omega) (P := (fun v m' => zW E (d) 22 47 [(2, 45), (0, a0), (0, (-1)), (1, 0), (9, 0)] (if v.1 = 9 then [] else v :: []) m' Q)) ?_ (fun _ _ h => h)
          generalize hQ1 : (fun v m' => zW E (d) 22 47 [(2, 45), (0, a0), (0, (-1)), (1, 0), (9, 0)] (if v.1 = 9 then [] else v :: []) m' Q) = Q1
          show zW E (d - 1) 19 0 [(2, 45), (1, 1), (9, 0)] [] m0 Q1
          refine zw_7 zr_19_0 rfl ?_
          refine zw_46i zr_19_1 ef56 rfl rfl rfl ?_
          refine zw_push zr_19_4 ?_
          refine zw_41_3 zr_19_6 ?_ ?_
          · intro h112; omega
          · intro h113
            refine zw_7 zr_19_9 rfl ?_
            refine zw_46r (s := 49) zr_19_10 rfl rfl rfl rfl ?_
            refine zw_7 zr_19_13 rfl ?_
            refine zw_46i zr_19_14 ef56 rfl rfl rfl ?_
            refine zw_5 zr_19_17 rfl ?_
            refine zw_51 (c := 49) (len := 50) zr_19_18 rfl rfl (by omega) (by omega) ?_
            intro m114 em114
            have hIm114 : zInv m114 := by rw [em114]; exact hI0.anyl (by omega) (zK3 rfl) rfl (by decide) (by decide)
            have hFm114 : zFr W_22 m0 m114 := by rw [em114]; exact hF0.any rfl
            have km114_45_9 : m114 45 9 = f56 := by rw [em114, zUp_ne (by omega)]; exact ef56
            clear em114
            refine zw_7 zr_19_19 rfl ?_
            refine zw_43 zr_19_20 rfl ?_
            refine zw_46i zr_19_21 km114_45_9 rfl rfl rfl ?_
            refine zw_push zr_19_24 ?_
            refine zw_16 zr_19_25 (by omega) ?_
            refine zw_47 (c := 45) zr_19_26 rfl ⟨rfl, by decide, rfl⟩ ?_
            intro m115 em115
            have hIm115 : zInv m115 := by rw [em115]; exact hIm114.bd (r := 45) (k := 9) (lo := 0) (hi := 50) rfl (by omega) (by decide) (by decide) (by decide)
            have hFm115 : zFr W_22 m0 m115 := by rw [em115]; exact hFm114.up rfl
            have km115_45_9 : m115 45 9 = (f56 + 1) := by rw [em115]; exact zUp_eq _ _ _ _
            clear em115
            refine zw_R zr_19_29 (by decide) zm_19 (v := (9, 0)) rfl ?_
            rw [← hQ1]
            show zW E (d) 22 47 [(2, 45), (0, a0), (0, (-1)), (1, 0), (9, 0)] [] m115 Q
            refine zw_42 zr_22_47 ?_
            refine zw_R zr_22_78 (by decide) zm_22 (v := (9, 0)) rfl ?_
            rw [← hQ]; exact ⟨rfl, hIm115, hFm115⟩
  · intro h116; omega

abbrev W_23 : List (Nat × Nat) := [(45, 9), (49, 1000)]
set_option maxHeartbeats 8000000 in
theorem th_23 {E : zE} {d : Nat} {m0 : zM} (hd : 3 ≤ d) (hI0 : zInv m0) : zC E d 23 [(2, 45)] m0 (fun v m' => ∃ r : Int, v = (1, r) ∧ (-9223372036854775808) ≤ r ∧ r ≤ 9223372036854775807 ∧ zInv m' ∧ zFr W_23 m0 m') := by
  have hF0 : zFr W_23 m0 m0 := zFr.rfl
  generalize hQ : (fun (v : zV) (m' : zM) => ∃ r : Int, v = (1, r) ∧ (-9223372036854775808) ≤ r ∧ r ≤ 9223372036854775807 ∧ zInv m' ∧ zFr W_23 m0 m') = Q
  show zW E d 23 0 [(2, 45), (9, 0)] [] m0 Q
  refine zw_7 zr_23_0 rfl ?_
  refine zw_push zr_23_1 ?_
  refine zw_47 (c := 45) zr_23_2 rfl ⟨rfl, by decide, rfl⟩ ?_
  intro m1 em1
  have hIm1 : zInv m1 := by rw [em1]; exact hI0.bd (r := 45) (k := 9) (lo := 0) (hi := 50) rfl (by omega) (by decide) (by decide) (by decide)
  have hFm1 : zFr W_23 m0 m1 := by rw [em1]; exact hF0.up rfl
  have km1_45_9 : m1 45 9 = 0 := by rw [em1]; exact zUp_eq _ _ _ _
  clear em1
  refine zw_push zr_23_5 ?_
  refine zw_9 (L' := [(2, 45), (0, 0)]) zr_23_6 (Nat.le_of_ble_eq_true rfl) rfl ?_
  have lp7_4 : ∀ (nlp7_4 : Nat) (i2 : Int) (m3 : zM), zInv m3 → zFr W_23 m0 m3 → 0 ≤ i2 → i2 ≤ 50 → (50 - i2).toNat < nlp7_4 → zW E (d) 23 7 [(2, 45), (0, i2)] [] m3 Q := by
    intro nlp7_4
    induction nlp7_4 with
    | zero =>
      intros
      exact absurd (by assumption : _ < 0) (Nat.not_lt_zero _)
    | succ nlp7_4 ihlp7_4 =>
      intro i2 m3 hIm3 hFm3 li2 ui2 hmlp7_4
      refine zw_3 zr_23_7 rfl ?_
      refine zw_7 zr_23_8 rfl ?_
      obtain ⟨f6, ef6⟩ : ∃ v, m3 45 8 = v := ⟨_, rfl⟩
      have bf6 := ib_45_8 hIm3
      rw [ef6] at bf6
      refine zw_46i zr_23_9 ef6 rfl rfl rfl ?_
      refine zw_41_3 zr_23_12 ?_ ?_
      · intro h7
        refine zw_7 zr_23_55 rfl ?_
        refine zw_C zr_23_56 (Or.inl rfl) zm_20 rfl rfl ⟨Nat.le_of_ble_eq_true rfl, Nat.le_of_ble_eq_true rfl, Nat.le_of_ble_eq_true rfl, rfl, by decide⟩ (by omega) (P := (fun v m' => zW E (d) 23 59 [(2, 45), (0, i2)] (if v.1 = 9 then [] else v :: []) m' Q)) ?_ (fun _ _ h => h)
        generalize hQ1 : (fun v m' => zW E (d) 23 59 [(2, 45), (0, i2)] (if v.1 = 9 then [] else v :: []) m' Q) = Q1
        show zW E (d - 1) 20 0 [(2, 45)] [] m3 Q1
        refine zw_7 zr_20_0 rfl ?_
        obtain ⟨f8, ef8⟩ : ∃ v, m3 45 9 = v := ⟨_, rfl⟩
        have bf8 := ib_45_9 hIm3
        rw [ef8] at bf8
        refine zw_46i zr_20_1 ef8 rfl rfl rfl ?_
        refine zw_40_2 zr_20_4 ?_ ?_
        · intro h9
          refine zw_7 zr_20_9 rfl ?_
          refine zw_43 zr_20_10 rfl ?_
          refine zw_46i zr_20_11 ef8 rfl rfl rfl ?_
          refine zw_push zr_20_14 ?_
          refine zw_17 zr_20_15 (by omega) ?_
          refine zw_47 (c := 45) zr_20_16 rfl ⟨rfl, by decide, rfl⟩ ?_
          intro m10 em10
          have hIm10 : zInv m10 := by rw [em10]; exact hIm3.bd (r := 45) (k := 9) (lo := 0) (hi := 50) rfl (by omega) (by decide) (by decide) (by decide)
          have hFm10 : zFr W_23 m0 m10 := by rw [em10]; exact hFm3.up rfl
          have km10_45_8 : m10 45 8 = f6 := by rw [em10, zUp_ne (by omega)]; exact ef6
          have km10_45_9 : m10 45 9 = (f8 - 1) := by rw [em10]; exact zUp_eq _ _ _ _
          clear em10
          refine zw_7 zr_20_19 rfl ?_
          refine zw_46r (s := 49) zr_20_20 rfl rfl rfl rfl ?_
          refine zw_7 zr_20_23 rfl ?_
          refine zw_46i zr_20_24 km10_45_9 rfl rfl rfl ?_
          refine zw_50 (c := 49) (len := 50) zr_20_27 rfl rfl (by omega) (by omega) ?_
          intro x11 ex11
          have bx11 := hIm10.rl (c := 49) (len := 50) (k := ((f8 - 1)).toNat) rfl (by omega)
          rw [← ex11] at bx11
          clear ex11
          refine zw_R zr_20_28 (by decide) zm_20 (v := (1, x11)) rfl ?_
          rw [← hQ1]
          show zW E (d) 23 59 [(2, 45), (0, i2)] [(1, x11)] m10 Q
          refine zw_R zr_23_59 (by decide) zm_23 (v := (1, x11)) rfl ?_
          rw [← hQ]; exact ⟨_, rfl, by omega, by omega, hIm10, hFm10⟩
        · intro h12
          refine zw_push zr_20_7 ?_
          refine zw_R zr_20_8 (by decide) zm_20 (v := (1, 0)) rfl ?_
          rw [← hQ1]
          show zW E (d) 23 59 [(2, 45), (0, i2)] [(1, 0)] m3 Q
          refine zw_R zr_23_59 (by decide) zm_23 (v := (1, 0)) rfl ?_
          rw [← hQ]; exact ⟨_, rfl, by omega, by omega, hIm3, hFm3⟩
      · intro h13
        refine zw_7 zr_23_15 rfl ?_
        refine zw_46r (s := 48) zr_23_16 rfl rfl rfl rfl ?_
        refine zw_3 zr_23_19 rfl ?_
        refine zw_48 (c := 48) (len := 50) zr_23_20 rfl rfl (by omega) (by omega) ?_
        intro x14 ex14
        have bx14 := hIm3.ra (c := 48) (len := 50) (k := (i2).toNat) rfl (by omega)
        rw [← ex14] at bx14
        refine zw_40_0 zr_23_21 ?_ ?_
        · intro h15
          refine zw_7 zr_23_38 rfl ?_
          refine zw_7 zr_23_39 rfl ?_
          refine zw_46r (s := 48) zr_23_40 rfl rfl rfl rfl ?_
          refine zw_3 zr_23_43 rfl ?_
          refine zw_48k (c := 48) (len := 50) zr_23_44 rfl rfl (by omega) (by omega) rfl ex14.symm ?_
          refine zw_38h zr_23_45 ?_
          intro x16 hx16a hx16b
          refine zw_C zr_23_46 (Or.inl rfl) zm_22 rfl rfl ⟨Nat.le_of_ble_eq_true rfl, Nat.le_of_ble_eq_true rfl, Nat.le_of_ble_eq_true rfl, rfl, by decide⟩ (by omega) (th_22 (d := d - 1) (by omega) hIm3 (a0 := x16)      (by omega) ) ?_
          rintro _ m17 ⟨rfl, hIm17, gm17⟩
          have hFm17 : zFr W_23 m0 m17 := hFm3.trans gm17 rfl
          have km17_45_8 : m17 45 8 = f6 := (gm17 45 8 rfl).trans ef6
          show zW E (d) 23 49 [(2, 45), (0, i2)] [] m17 Q
          refine zw_15 (c := 1) (L' := [(2, 45), (0, (i2 + 1))]) zr_23_49 rfl (by decide) (by omega) rfl ?_
          refine zw_42 zr_23_52 ?_
          exact zw_less (L := [(2, 45), (0, (i2 + 1))]) ⟨Or.inr rfl, Or.inr rfl, trivial⟩ (ihlp7_4 ((i2 + 1)) m17 hIm17 hFm17   (by omega) (by omega)  (by omega))
        · intro h18
          refine zw_7 zr_23_24 rfl ?_
          refine zw_7 zr_23_25 rfl ?_
          refine zw_46r (s := 48) zr_23_26 rfl rfl rfl rfl ?_
          refine zw_3 zr_23_29 rfl ?_
          refine zw_48k (c := 48) (len := 50) zr_23_30 rfl rfl (by omega) (by omega) rfl ex14.symm ?_
          refine zw_36 zr_23_31 ?_
          refine zw_C zr_23_32 (Or.inl rfl) zm_19 rfl rfl ⟨Nat.le_of_ble_eq_true rfl, Nat.le_of_ble_eq_true rfl, Nat.le_of_ble_eq_true rfl, rfl, by decide⟩ (by omega) (P := (fun v m' => zW E (d) 23 35 [(2, 45), (0, i2)] (if v.1 = 9 then [] else v :: []) m' Q)) ?_ (fun _ _ h => h)
          generalize hQ1 : (fun v m' => zW E (d) 23 35 [(2, 45), (0, i2)] (if v.1 = 9 then [] else v :: []) m' Q) = Q1
          show zW E (d - 1) 19 0 [(2, 45), (1, x14), (9, 0)] [] m3 Q1
          refine zw_7 zr_19_0 rfl ?_
          obtain ⟨f19, ef19⟩ : ∃ v, m3 45 9 = v := ⟨_, rfl⟩
          have bf19 := ib_45_9 hIm3
          rw [ef19] at bf19
          refine zw_46i zr_19_1 ef19 rfl rfl rfl ?_
          refine zw_push zr_19_4 ?_
          refine zw_41_3 zr_19_6 ?_ ?_
          · intro h20
            refine zw_R zr_19_29 (by decide) zm_19 (v := (9, 0)) rfl ?_
            rw [← hQ1]
            show zW E (d) 23 35 [(2, 45), (0, i2)] [] m3 Q
            refine zw_42 zr_23_35 ?_
            refine zw_15 (c := 1) (L' := [(2, 45), (0, (i2 + 1))]) zr_23_49 rfl (by decide) (by omega) rfl ?_
            refine zw_42 zr_23_52 ?_
            exact zw_less (L := [(2, 45), (0, (i2 + 1))]) ⟨Or.inr rfl, Or.inr rfl, trivial⟩ (ihlp7_4 ((i2 + 1)) m3 hIm3 hFm3   (by omega) (by omega)  (by omega))
          · intro h21
            refine zw_7 zr_19_9 rfl ?_
            refine zw_46r (s := 49) zr_19_10 rfl rfl rfl rfl ?_
            refine zw_7 zr_19_13 rfl ?_
            refine zw_46i zr_19_14 ef19 rfl rfl rfl ?_
            refine zw_5 zr_19_17 rfl ?_
            refine zw_51 (c := 49) (len := 50) zr_19_18 rfl rfl (by omega) (by omega) ?_
            intro m22 em22
            have hIm22 : zInv m22 := by rw [em22]; exact hIm3.anyl (by omega) (zK3 rfl) rfl (by decide) (by decide)
            have hFm22 : zFr W_23 m0 m22 := by rw [em22]; exact hFm3.any rfl
            have km22_45_8 : m22 45 8 = f6 := by rw [em22, zUp_ne (by omega)]; exact ef6
            have km22_45_9 : m22 45 9 = f19 := by rw [em22, zUp_ne (by omega)]; exact ef19
            clear em22
            refine zw_7 zr_19_19 rfl ?_
            refine zw_43 zr_19_20 rfl ?_
            refine zw_46i zr_19_21 km22_45_9 rfl rfl rfl ?_
            refine zw_push zr_19_24 ?_
            refine zw_16 zr_19_25 (by omega) ?_
            refine zw_47 (c := 45) zr_19_26 rfl ⟨rfl, by decide, rfl⟩ ?_
            intro m23 em23
            have hIm23 : zInv m23 := by rw [em23]; exact hIm22.bd (r := 45) (k := 9) (lo := 0) (hi := 50) rfl (by omega) (by decide) (by decide) (by decide)
            have hFm23 : zFr W_23 m0 m23 := by rw [em23]; exact hFm22.up rfl
            have km23_45_8 : m23 45 8 = f6 := by rw [em23, zUp_ne (by omega)]; exact km22_45_8
            have km23_45_9 : m23 45 9 = (f19 + 1) := by rw [em23]; exact zUp_eq _ _ _ _
            clear em23
            refine zw_R zr_19_29 (by decide) zm_19 (v := (9, 0)) rfl ?_
            rw [← hQ1]
            show zW E (d) 23 35 [(2, 45), (0, i2)] [] m23 Q
            refine zw_42 zr_23_35 ?_
            refine zw_15 (c := 1) (L' := [(2, 45), (0, (i2 + 1))]) zr_23_49 rfl (by decide) (by omega) rfl ?_
            refine zw_42 zr_23_52 ?_
            exact zw_less (L := [(2, 45), (0, (i2 + 1))]) ⟨Or.inr rfl, Or.inr rfl, trivial⟩ (ihlp7_4 ((i2 + 1)) m23 hIm23 hFm23   (by omega) (by omega)  (by omega))
  exact lp7_4 _ (0) m1 hIm1 hFm1   (by omega) (by omega)  (Nat.lt_succ_self _)

abbrev W_24 : List (Nat × Nat) := [(45, 9), (46, 1000), (49, 1000)]
set_option maxHeartbeats 8000000 in
theorem th_24 {E : zE} {d : Nat} {m0 : zM} {a0 : Int} {a1 : Int} {a2 : Int} {a3 : Int} (hd : 4 ≤ d) (hI0 : zInv m0) (ha0 : 0 ≤ a0 ∧ a0 ≤ 59) (ha1 : 0 ≤ a1 ∧ a1 ≤ 9) (ha2 : 0 ≤ a2 ∧ a2 ≤ 9) (ha3 : 0 ≤ a3 ∧ a3 ≤ 2) : zC E d 24 [(2, 43), (0, a0), (0, a1), (0, a2), (0, a3)] m0 (fun v m' => ∃ r : Int, v = (0, r) ∧ (-2147483648) ≤ r ∧ r ≤ 2147483647 ∧ zInv m' ∧ zFr W_24 m0 m') := by
  have hF0 : zFr W_24 m0 m0 := zFr.rfl
  generalize hQ : (fun (v : zV) (m' : zM) => ∃ r : Int, v = (0, r) ∧ (-2147483648) ≤ r ∧ r ≤ 2147483647 ∧ zInv m' ∧ zFr W_24 m0 m') = Q
  show zW E d 24 0 [(2, 43), (0, a0), (0, a1), (0, a2), (0, a3), (9, 0)] [] m0 Q
  refine zw_7 zr_24_0 rfl ?_
  refine zw_C zr_24_1 (Or.inl rfl) zm_17 rfl rfl ⟨Nat.le_of_ble_eq_true rfl, Nat.le_of_ble_eq_true rfl, Nat.le_of_ble_eq_true rfl, rfl, by decide⟩ (by omega) (P := (fun v m' => zW E (d) 24 4 [(2, 43), (0, a0), (0, a1), (0, a2), (0, a3), (9, 0)] (if v.1 = 9 then [] else v :: []) m' Q)) ?_ (fun _ _ h => h)
  generalize hQ1 : (fun v m' => zW E (d) 24 4 [(2, 43), (0, a0), (0, a1), (0, a2), (0, a3), (9, 0)] (if v.1 = 9 then [] else v :: []) m' Q) = Q1
  show zW E (d - 1) 17 0 [(2, 43)] [] m0 Q1
  refine zw_7 zr_17_0 rfl ?_
  refine zw_46r (s := 45) zr_17_1 rfl rfl rfl rfl ?_
  obtain ⟨f1, ef1⟩ : ∃ v, m0 45 1 = v := ⟨_, rfl⟩
  have bf1 := hI0.fi (c := 45) (k := 1) rfl
  rw [ef1] at bf1
  refine zw_46i zr_17_4 ef1 rfl rfl rfl ?_
  refine zw_push zr_17_7 ?_
  refine zw_41_1 zr_17_8 ?_ ?_
  · intro h2
    refine zw_push zr_17_15 ?_
    refine zw_R zr_17_16 (by decide) zm_17 (v := (0, 0)) (zRetB (by omega)) ?_
    rw [← hQ1]
    show zW E (d) 24 4 [(2, 43), (0, a0), (0, a1), (0, a2), (0, a3), (9, 0)] [(0, 0)] m0 Q
    refine zw_40_1 zr_24_4 ?_ ?_
    · intro h3
      refine zw_7 zr_24_9 rfl ?_
      refine zw_46r (s := 45) zr_24_10 rfl rfl rfl rfl ?_
      refine zw_46r (s := 46) zr_24_13 rfl rfl rfl rfl ?_
      refine zw_12 (L' := [(2, 43), (0, a0), (0, a1), (0, a2), (0, a3), (2, 46)]) zr_24_16 (Nat.le_of_ble_eq_true rfl) rfl ?_
      refine zw_8 zr_24_18 rfl ?_
      refine zw_push zr_24_20 ?_
      refine zw_7 zr_24_21 rfl ?_
      refine zw_46r (s := 44) zr_24_22 rfl rfl rfl rfl ?_
      refine zw_3 zr_24_25 rfl ?_
      refine zw_48 (c := 44) (len := 10) zr_24_26 rfl rfl (by omega) (by omega) ?_
      intro x4 ex4
      have bx4 := hI0.ra (c := 44) (len := 10) (k := (a1).toNat) rfl (by omega)
      rw [← ex4] at bx4
      clear ex4
      refine zw_36 zr_24_27 ?_
      refine zw_51 (c := 46) (len := 6) zr_24_28 rfl rfl (by omega) (by omega) ?_
      intro m5 em5
      have hIm5 : zInv m5 := by rw [em5]; exact hI0.anyl (by omega) (zK3 rfl) rfl (by decide) (by decide)
      have hFm5 : zFr W_24 m0 m5 := by rw [em5]; exact hF0.any rfl
      have km5_45_1 : m5 45 1 = f1 := by rw [em5, zUp_ne (by omega)]; exact ef1
      clear em5
      refine zw_8 zr_24_29 rfl ?_
      refine zw_push zr_24_31 ?_
      refine zw_7 zr_24_32 rfl ?_
      refine zw_46r (s := 44) zr_24_33 rfl rfl rfl rfl ?_
      refine zw_3 zr_24_36 rfl ?_
      refine zw_48 (c := 44) (len := 10) zr_24_37 rfl rfl (by omega) (by omega) ?_
      intro x6 ex6
      have bx6 := hIm5.ra (c := 44) (len := 10) (k := (a2).toNat) rfl (by omega)
      rw [← ex6] at bx6
      clear ex6
      refine zw_36 zr_24_38 ?_
      refine zw_51 (c := 46) (len := 6) zr_24_39 rfl rfl (by omega) (by omega) ?_
      intro m7 em7
      have hIm7 : zInv m7 := by rw [em7]; exact hIm5.anyl (by omega) (zK3 rfl) rfl (by decide) (by decide)
      have hFm7 : zFr W_24 m0 m7 := by rw [em7]; exact hFm5.any rfl
      have km7_45_1 : m7 45 1 = f1 := by rw [em7, zUp_ne (by omega)]; exact km5_45_1
      clear em7
      refine zw_8 zr_24_40 rfl ?_
      refine zw_push zr_24_42 ?_
      refine zw_4 zr_24_43 rfl ?_
      refine zw_36 zr_24_45 ?_
      refine zw_51 (c := 46) (len := 6) zr_24_46 rfl rfl (by omega) (by omega) ?_
      intro m8 em8
      have hIm8 : zInv m8 := by rw [em8]; exact hIm7.anyl (by omega) (zK3 rfl) rfl (by decide) (by decide)
      have hFm8 : zFr W_24 m0 m8 := by rw [em8]; exact hFm7.any rfl
      have km8_45_1 : m8 45 1 = f1 := by rw [em8, zUp_ne (by omega)]; exact km7_45_1
      clear em8
      refine zw_8 zr_24_47 rfl ?_
      refine zw_push zr_24_49 ?_
      refine zw_7 zr_24_50 rfl ?_
      refine zw_46r (s := 50) zr_24_51 rfl rfl rfl rfl ?_
      refine zw_3 zr_24_54 rfl ?_
      refine zw_48 (c := 50) (len := 10) zr_24_55 rfl rfl (by omega) (by omega) ?_
      intro x9 ex9
      have bx9 := hIm8.ra (c := 50) (len := 10) (k := (a1).toNat) rfl (by omega)
      rw [← ex9] at bx9
      clear ex9
      refine zw_36 zr_24_56 ?_
      refine zw_51 (c := 46) (len := 6) zr_24_57 rfl rfl (by omega) (by omega) ?_
      intro m10 em10
      have hIm10 : zInv m10 := by rw [em10]; exact hIm8.anyl (by omega) (zK3 rfl) rfl (by decide) (by decide)
      have hFm10 : zFr W_24 m0 m10 := by rw [em10]; exact hFm8.any rfl
      have km10_45_1 : m10 45 1 = f1 := by rw [em10, zUp_ne (by omega)]; exact km8_45_1
      clear em10
      refine zw_8 zr_24_58 rfl ?_
      refine zw_push zr_24_60 ?_
      refine zw_7 zr_24_61 rfl ?_
      refine zw_46r (s := 50) zr_24_62 rfl rfl rfl rfl ?_
      refine zw_3 zr_24_65 rfl ?_
      refine zw_48 (c := 50) (len := 10) zr_24_66 rfl rfl (by omega) (by omega) ?_
      intro x11 ex11
      have bx11 := hIm10.ra (c := 50) (len := 10) (k := (a1).toNat) rfl (by omega)
      rw [← ex11] at bx11
      clear ex11
      refine zw_40_5 zr_24_67 ?_ ?_
      · intro h12
        refine zw_push zr_24_90 ?_
        refine zw_51 (c := 46) (len := 6) zr_24_91 rfl rfl (by omega) (by omega) ?_
        intro m13 em13
        have hIm13 : zInv m13 := by rw [em13]; exact hIm10.anyl (by omega) (zK3 rfl) rfl (by decide) (by decide)
        have hFm13 : zFr W_24 m0 m13 := by rw [em13]; exact hFm10.any rfl
        have km13_45_1 : m13 45 1 = f1 := by rw [em13, zUp_ne (by omega)]; exact km10_45_1
        clear em13
        refine zw_8 zr_24_92 rfl ?_
        refine zw_push zr_24_94 ?_
        refine zw_7 zr_24_95 rfl ?_
        refine zw_46r (s := 1) zr_24_96 rfl rfl rfl rfl ?_
        refine zw_3 zr_24_99 rfl ?_
        refine zw_C zr_24_100 (Or.inl rfl) zm_18 rfl rfl ⟨Nat.le_of_ble_eq_true rfl, Nat.le_of_ble_eq_true rfl, Nat.le_of_ble_eq_true rfl, rfl, by decide⟩ (by omega) (P := (fun v m' => zW E (d) 24 103 [(2, 43), (0, a0), (0, a1), (0, a2), (0, a3), (2, 46)] (if v.1 = 9 then [(0, 5), (2, 46)] else v :: [(0, 5), (2, 46)]) m' Q)) ?_ (fun _ _ h => h)
        generalize hQ1 : (fun v m' => zW E (d) 24 103 [(2, 43), (0, a0), (0, a1), (0, a2), (0, a3), (2, 46)] (if v.1 = 9 then [(0, 5), (2, 46)] else v :: [(0, 5), (2, 46)]) m' Q) = Q1
        show zW E (d - 1) 18 0 [(2, 1), (0, a0)] [] m13 Q1
        refine zw_7 zr_18_0 rfl ?_
        obtain ⟨f14, ef14⟩ : ∃ v, m13 1 2 = v := ⟨_, rfl⟩
        have bf14 := ib_1_2 hIm13
        rw [ef14] at bf14
        refine zw_46l zr_18_1 ef14 rfl rfl rfl ?_
        refine zw_3 zr_18_4 rfl ?_
        refine zw_34p zr_18_5 (by omega) (by omega) ?_
        intro x15 hx15c hx15a hx15b
        refine zw_push zr_18_6 ?_
        refine zw_30o zr_18_7 (by omega) ?_
        refine zw_push zr_18_8 ?_
        refine zw_39_1 zr_18_9 zr_18_10 ?_ ?_
        · intro h16
          refine zw_push zr_18_17 ?_
          refine zw_R zr_18_18 (by decide) zm_18 (v := (0, 0)) (zRetB (by omega)) ?_
          rw [← hQ1]
          show zW E (d) 24 103 [(2, 43), (0, a0), (0, a1), (0, a2), (0, a3), (2, 46)] [(0, 0), (0, 5), (2, 46)] m13 Q
          refine zw_40_1 zr_24_103 ?_ ?_
          · intro h17
            refine zw_push zr_24_110 ?_
            refine zw_51 (c := 46) (len := 6) zr_24_111 rfl rfl (by omega) (by omega) ?_
            intro m18 em18
            have hIm18 : zInv m18 := by rw [em18]; exact hIm13.anyl (by omega) (zK3 rfl) rfl (by decide) (by decide)
            have hFm18 : zFr W_24 m0 m18 := by rw [em18]; exact hFm13.any rfl
            have km18_45_1 : m18 45 1 = f1 := by rw [em18, zUp_ne (by omega)]; exact km13_45_1
            have km18_1_2 : m18 1 2 = f14 := by rw [em18, zUp_ne (by omega)]; exact ef14
            clear em18
            refine zw_push zr_24_112 ?_
            refine zw_push zr_24_115 ?_
            refine zw_7 zr_24_118 rfl ?_
            refine zw_46r (s := 45) zr_24_119 rfl rfl rfl rfl ?_
            refine zw_C zr_24_122 (Or.inl rfl) zm_23 rfl rfl ⟨Nat.le_of_ble_eq_true rfl, Nat.le_of_ble_eq_true rfl, Nat.le_of_ble_eq_true rfl, rfl, by decide⟩ (by omega) (th_23 (d := d - 1) (by omega) hIm18        ) ?_
            rintro _ m19 ⟨r20, rfl, hr20a, hr20b, hIm19, gm19⟩
            have hFm19 : zFr W_24 m0 m19 := hFm18.trans gm19 rfl
            have km19_45_1 : m19 45 1 = f1 := (gm19 45 1 rfl).trans km18_45_1
            have km19_1_2 : m19 1 2 = f14 := (gm19 1 2 rfl).trans km18_1_2
            show zW E (d) 24 125 [(2, 43), (0, a0), (0, a1), (0, a2), (0, a3), (2, 46)] [(1, r20), (1, 500), (1, (-500))] m19 Q
            refine zw_124 zr_24_125 (Nat.le_of_ble_eq_true rfl) (by omega) (by omega) (by omega) ?_
            intro x21 hx21a hx21b hx21c
            refine zw_123 zr_24_128 (Nat.le_of_ble_eq_true rfl) (by omega) (by omega) (by omega) ?_
            intro x22 hx22a hx22b hx22c
            refine zw_37h zr_24_131 ?_
            intro x23 hx23a hx23b
            refine zw_R zr_24_132 (by decide) zm_24 (v := (0, x23)) rfl ?_
            rw [← hQ]; exact ⟨_, rfl, by omega, by omega, hIm19, hFm19⟩
          · intro h24; omega
        · intro h25
          refine zw_push zr_18_13 ?_
          refine zw_42 zr_18_14 ?_
          refine zw_R zr_18_18 (by decide) zm_18 (v := (0, 1)) (zRetB (by omega)) ?_
          rw [← hQ1]
          show zW E (d) 24 103 [(2, 43), (0, a0), (0, a1), (0, a2), (0, a3), (2, 46)] [(0, 1), (0, 5), (2, 46)] m13 Q
          refine zw_40_1 zr_24_103 ?_ ?_
          · intro h26; omega
          · intro h27
            refine zw_push zr_24_106 ?_
            refine zw_42 zr_24_107 ?_
            refine zw_51 (c := 46) (len := 6) zr_24_111 rfl rfl (by omega) (by omega) ?_
            intro m28 em28
            have hIm28 : zInv m28 := by rw [em28]; exact hIm13.anyl (by omega) (zK3 rfl) rfl (by decide) (by decide)
            have hFm28 : zFr W_24 m0 m28 := by rw [em28]; exact hFm13.any rfl
            have km28_45_1 : m28 45 1 = f1 := by rw [em28, zUp_ne (by omega)]; exact km13_45_1
            have km28_1_2 : m28 1 2 = f14 := by rw [em28, zUp_ne (by omega)]; exact ef14
            clear em28
            refine zw_push zr_24_112 ?_
            refine zw_push zr_24_115 ?_
            refine zw_7 zr_24_118 rfl ?_
            refine zw_46r (s := 45) zr_24_119 rfl rfl rfl rfl ?_
            refine zw_C zr_24_122 (Or.inl rfl) zm_23 rfl rfl ⟨Nat.le_of_ble_eq_true rfl, Nat.le_of_ble_eq_true rfl, Nat.le_of_ble_eq_true rfl, rfl, by decide⟩ (by omega) (th_23 (d := d - 1) (by omega) hIm28        ) ?_
            rintro _ m29 ⟨r30, rfl, hr30a, hr30b, hIm29, gm29⟩
            have hFm29 : zFr W_24 m0 m29 := hFm28.trans gm29 rfl
            have km29_45_1 : m29 45 1 = f1 := (gm29 45 1 rfl).trans km28_45_1
            have km29_1_2 : m29 1 2 = f14 := (gm29 1 2 rfl).trans km28_1_2
            show zW E (d) 24 125 [(2, 43), (0, a0), (0, a1), (0, a2), (0, a3), (2, 46)] [(1, r30), (1, 500), (1, (-500))] m29 Q
            refine zw_124 zr_24_125 (Nat.le_of_ble_eq_true rfl) (by omega) (by omega) (by omega) ?_
            intro x31 hx31a hx31b hx31c
            refine zw_123 zr_24_128 (Nat.le_of_ble_eq_true rfl) (by omega) (by omega) (by omega) ?_
            intro x32 hx32a hx32b hx32c
            refine zw_37h zr_24_131 ?_
            intro x33 hx33a hx33b
            refine zw_R zr_24_132 (by decide) zm_24 (v := (0, x33)) rfl ?_
            rw [← hQ]; exact ⟨_, rfl, by omega, by omega, hIm29, hFm29⟩
      · intro h34
        refine zw_7 zr_24_70 rfl ?_
        refine zw_46r (s := 1) zr_24_71 rfl rfl rfl rfl ?_
        refine zw_46r (s := 5) zr_24_74 rfl rfl rfl rfl ?_
        refine zw_3 zr_24_77 rfl ?_
        refine zw_48 (c := 5) (len := 60) zr_24_78 rfl rfl (by omega) (by omega) ?_
        intro x35 ex35
        have bx35 := ib_5 hIm10 (k := (a0).toNat) (by omega)
        rw [← ex35] at bx35
        clear ex35
        refine zw_7 zr_24_79 rfl ?_
        refine zw_46r (s := 51) zr_24_80 rfl rfl rfl rfl ?_
        refine zw_3 zr_24_83 rfl ?_
        refine zw_48 (c := 51) (len := 10) zr_24_84 rfl rfl (by omega) (by omega) ?_
        intro x36 ex36
        have bx36 := hIm10.ra (c := 51) (len := 10) (k := (a1).toNat) rfl (by omega)
        rw [← ex36] at bx36
        clear ex36
        refine zw_17h zr_24_85 ?_
        intro x37 hx37a hx37b
        refine zw_36 zr_24_86 ?_
        refine zw_42 zr_24_87 ?_
        refine zw_51 (c := 46) (len := 6) zr_24_91 rfl rfl (by omega) (by omega) ?_
        intro m38 em38
        have hIm38 : zInv m38 := by rw [em38]; exact hIm10.anyl (by omega) (zK3 rfl) rfl (by decide) (by decide)
        have hFm38 : zFr W_24 m0 m38 := by rw [em38]; exact hFm10.any rfl
        have km38_45_1 : m38 45 1 = f1 := by rw [em38, zUp_ne (by omega)]; exact km10_45_1
        clear em38
        refine zw_8 zr_24_92 rfl ?_
        refine zw_push zr_24_94 ?_
        refine zw_7 zr_24_95 rfl ?_
        refine zw_46r (s := 1) zr_24_96 rfl rfl rfl rfl ?_
        refine zw_3 zr_24_99 rfl ?_
        refine zw_C zr_24_100 (Or.inl rfl) zm_18 rfl rfl ⟨Nat.le_of_ble_eq_true rfl, Nat.le_of_ble_eq_true rfl, Nat.le_of_ble_eq_true rfl, rfl, by decide⟩ (by omega) (P := (fun v m' => zW E (d) 24 103 [(2, 43), (0, a0), (0, a1), (0, a2), (0, a3), (2, 46)] (if v.1 = 9 then [(0, 5), (2, 46)] else v :: [(0, 5), (2, 46)]) m' Q)) ?_ (fun _ _ h => h)
        generalize hQ1 : (fun v m' => zW E (d) 24 103 [(2, 43), (0, a0), (0, a1), (0, a2), (0, a3), (2, 46)] (if v.1 = 9 then [(0, 5), (2, 46)] else v :: [(0, 5), (2, 46)]) m' Q) = Q1
        show zW E (d - 1) 18 0 [(2, 1), (0, a0)] [] m38 Q1
        refine zw_7 zr_18_0 rfl ?_
        obtain ⟨f39, ef39⟩ : ∃ v, m38 1 2 = v := ⟨_, rfl⟩
        have bf39 := ib_1_2 hIm38
        rw [ef39] at bf39
        refine zw_46l zr_18_1 ef39 rfl rfl rfl ?_
        refine zw_3 zr_18_4 rfl ?_
        refine zw_34p zr_18_5 (by omega) (by omega) ?_
        intro x40 hx40c hx40a hx40b
        refine zw_push zr_18_6 ?_
        refine zw_30o zr_18_7 (by omega) ?_
        refine zw_push zr_18_8 ?_
        refine zw_39_1 zr_18_9 zr_18_10 ?_ ?_
        · intro h41
          refine zw_push zr_18_17 ?_
          refine zw_R zr_18_18 (by decide) zm_18 (v := (0, 0)) (zRetB (by omega)) ?_
          rw [← hQ1]
          show zW E (d) 24 103 [(2, 43), (0, a0), (0, a1), (0, a2), (0, a3), (2, 46)] [(0, 0), (0, 5), (2, 46)] m38 Q
          refine zw_40_1 zr_24_103 ?_ ?_
          · intro h42
            refine zw_push zr_24_110 ?_
            refine zw_51 (c := 46) (len := 6) zr_24_111 rfl rfl (by omega) (by omega) ?_
            intro m43 em43
            have hIm43 : zInv m43 := by rw [em43]; exact hIm38.anyl (by omega) (zK3 rfl) rfl (by decide) (by decide)
            have hFm43 : zFr W_24 m0 m43 := by rw [em43]; exact hFm38.any rfl
            have km43_45_1 : m43 45 1 = f1 := by rw [em43, zUp_ne (by omega)]; exact km38_45_1
            have km43_1_2 : m43 1 2 = f39 := by rw [em43, zUp_ne (by omega)]; exact ef39
            clear em43
            refine zw_push zr_24_112 ?_
            refine zw_push zr_24_115 ?_
            refine zw_7 zr_24_118 rfl ?_
            refine zw_46r (s := 45) zr_24_119 rfl rfl rfl rfl ?_
            refine zw_C zr_24_122 (Or.inl rfl) zm_23 rfl rfl ⟨Nat.le_of_ble_eq_true rfl, Nat.le_of_ble_eq_true rfl, Nat.le_of_ble_eq_true rfl, rfl, by decide⟩ (by omega) (th_23 (d := d - 1) (by omega) hIm43        ) ?_
            rintro _ m44 ⟨r45, rfl, hr45a, hr45b, hIm44, gm44⟩
            have hFm44 : zFr W_24 m0 m44 := hFm43.trans gm44 rfl
            have km44_45_1 : m44 45 1 = f1 := (gm44 45 1 rfl).trans km43_45_1
            have km44_1_2 : m44 1 2 = f39 := (gm44 1 2 rfl).trans km43_1_2
            show zW E (d) 24 125 [(2, 43), (0, a0), (0, a1), (0, a2), (0, a3), (2, 46)] [(1, r45), (1, 500), (1, (-500))] m44 Q
            refine zw_124 zr_24_125 (Nat.le_of_ble_eq_true rfl) (by omega) (by omega) (by omega) ?_
            intro x46 hx46a hx46b hx46c
            refine zw_123 zr_24_128 (Nat.le_of_ble_eq_true rfl) (by omega) (by omega) (by omega) ?_
            intro x47 hx47a hx47b hx47c
            refine zw_37h zr_24_131 ?_
            intro x48 hx48a hx48b
            refine zw_R zr_24_132 (by decide) zm_24 (v := (0, x48)) rfl ?_
            rw [← hQ]; exact ⟨_, rfl, by omega, by omega, hIm44, hFm44⟩
          · intro h49; omega
        · intro h50
          refine zw_push zr_18_13 ?_
          refine zw_42 zr_18_14 ?_
          refine zw_R zr_18_18 (by decide) zm_18 (v := (0, 1)) (zRetB (by omega)) ?_
          rw [← hQ1]
          show zW E (d) 24 103 [(2, 43), (0, a0), (0, a1), (0, a2), (0, a3), (2, 46)] [(0, 1), (0, 5), (2, 46)] m38 Q
          refine zw_40_1 zr_24_103 ?_ ?_
          · intro h51; omega
          · intro h52
            refine zw_push zr_24_106 ?_
            refine zw_42 zr_24_107 ?_
            refine zw_51 (c := 46) (len := 6) zr_24_111 rfl rfl (by omega) (by omega) ?_
            intro m53 em53
            have hIm53 : zInv m53 := by rw [em53]; exact hIm38.anyl (by omega) (zK3 rfl) rfl (by decide) (by decide)
            have hFm53 : zFr W_24 m0 m53 := by rw [em53]; exact hFm38.any rfl
            have km53_45_1 : m53 45 1 = f1 := by rw [em53, zUp_ne (by omega)]; exact km38_45_1
            have km53_1_2 : m53 1 2 = f39 := by rw [em53, zUp_ne (by omega)]; exact ef39
            clear em53
            refine zw_push zr_24_112 ?_
            refine zw_push zr_24_115 ?_
            refine zw_7 zr_24_118 rfl ?_
            refine zw_46r (s := 45) zr_24_119 rfl rfl rfl rfl ?_
            refine zw_C zr_24_122 (Or.inl rfl) zm_23 rfl rfl ⟨Nat.le_of_ble_eq_true rfl, Nat.le_of_ble_eq_true rfl, Nat.le_of_ble_eq_true rfl, rfl, by decide⟩ (by omega) (th_23 (d := d - 1) (by omega) hIm53        ) ?_
            rintro _ m54 ⟨r55, rfl, hr55a, hr55b, hIm54, gm54⟩
            have hFm54 : zFr W_24 m0 m54 := hFm53.trans gm54 rfl
            have km54_45_1 : m54 45 1 = f1 := (gm54 45 1 rfl).trans km53_45_1
            have km54_1_2 : m54 1 2 = f39 := (gm54 1 2 rfl).trans km53_1_2
            show zW E (d) 24 125 [(2, 43), (0, a0), (0, a1), (0, a2), (0, a3), (2, 46)] [(1, r55), (1, 500), (1, (-500))] m54 Q
            refine zw_124 zr_24_125 (Nat.le_of_ble_eq_true rfl) (by omega) (by omega) (by omega) ?_
            intro x56 hx56a hx56b hx56c
            refine zw_123 zr_24_128 (Nat.le_of_ble_eq_true rfl) (by omega) (by omega) (by omega) ?_
            intro x57 hx57a hx57b hx57c
            refine zw_37h zr_24_131 ?_
            intro x58 hx58a hx58b
            refine zw_R zr_24_132 (by decide) zm_24 (v := (0, x58)) rfl ?_
            rw [← hQ]; exact ⟨_, rfl, by omega, by omega, hIm54, hFm54⟩
    · intro h59; omega
  · intro h60
    refine zw_push zr_17_11 ?_
    refine zw_42 zr_17_12 ?_
    refine zw_R zr_17_16 (by decide) zm_17 (v := (0, 1)) (zRetB (by omega)) ?_
    rw [← hQ1]
    show zW E (d) 24 4 [(2, 43), (0, a0), (0, a1), (0, a2), (0, a3), (9, 0)] [(0, 1)] m0 Q
    refine zw_40_1 zr_24_4 ?_ ?_
    · intro h61; omega
    · intro h62
      refine zw_push zr_24_7 ?_
      refine zw_R zr_24_8 (by decide) zm_24 (v := (0, 0)) rfl ?_
      rw [← hQ]; exact ⟨_, rfl, by omega, by omega, hI0, hF0⟩

abbrev W_25 : List (Nat × Nat) := [(44, 1000), (50, 1000), (51, 1000)]
set_option maxHeartbeats 8000000 in
theorem th_25 {E : zE} {d : Nat} {m0 : zM} {a0 : Int} {a1 : Int} {a2 : Int} (hd : 1 ≤ d) (hI0 : zInv m0) (ha0 : 0 ≤ a0 ∧ a0 ≤ 9) (ha1 : (-2147483648) ≤ a1 ∧ a1 ≤ 2147483647) (ha2 : 0 ≤ a2 ∧ a2 ≤ 99) : zC E d 25 [(2, 43), (0, a0), (0, a1), (0, a2)] m0 (fun v m' => v = (9, 0) ∧ zInv m' ∧ zFr W_25 m0 m') := by
  have hF0 : zFr W_25 m0 m0 := zFr.rfl
  generalize hQ : (fun (v : zV) (m' : zM) => v = (9, 0) ∧ zInv m' ∧ zFr W_25 m0 m') = Q
  show zW E d 25 0 [(2, 43), (0, a0), (0, a1), (0, a2)] [] m0 Q
  refine zw_7 zr_25_0 rfl ?_
  refine zw_46r (s := 44) zr_25_1 rfl rfl rfl rfl ?_
  refine zw_3 zr_25_4 rfl ?_
  refine zw_45 zr_25_5 ⟨rfl, rfl⟩ ?_
  refine zw_48 (c := 44) (len := 10) zr_25_6 rfl rfl (by omega) (by omega) ?_
  intro x1 ex1
  have bx1 := hI0.ra (c := 44) (len := 10) (k := (a0).toNat) rfl (by omega)
  rw [← ex1] at bx1
  clear ex1
  refine zw_3 zr_25_7 rfl ?_
  refine zw_16h zr_25_8 ?_
  intro x2 hx2a hx2b
  refine zw_49 (c := 44) (len := 10) zr_25_9 rfl rfl (by omega) (by omega) ?_
  intro m3 em3
  have hIm3 : zInv m3 := by rw [em3]; exact hI0.any (by omega) rfl (by decide) (by decide)
  have hFm3 : zFr W_25 m0 m3 := by rw [em3]; exact hF0.any rfl
  clear em3
  refine zw_7 zr_25_10 rfl ?_
  refine zw_46r (s := 50) zr_25_11 rfl rfl rfl rfl ?_
  refine zw_3 zr_25_14 rfl ?_
  refine zw_45 zr_25_15 ⟨rfl, rfl⟩ ?_
  refine zw_48 (c := 50) (len := 10) zr_25_16 rfl rfl (by omega) (by omega) ?_
  intro x4 ex4
  have bx4 := hIm3.ra (c := 50) (len := 10) (k := (a0).toNat) rfl (by omega)
  rw [← ex4] at bx4
  clear ex4
  refine zw_push zr_25_17 ?_
  refine zw_16h zr_25_18 ?_
  intro x5 hx5a hx5b
  refine zw_49 (c := 50) (len := 10) zr_25_19 rfl rfl (by omega) (by omega) ?_
  intro m6 em6
  have hIm6 : zInv m6 := by rw [em6]; exact hIm3.any (by omega) rfl (by decide) (by decide)
  have hFm6 : zFr W_25 m0 m6 := by rw [em6]; exact hFm3.any rfl
  clear em6
  refine zw_7 zr_25_20 rfl ?_
  refine zw_46r (s := 51) zr_25_21 rfl rfl rfl rfl ?_
  refine zw_3 zr_25_24 rfl ?_
  refine zw_3 zr_25_25 rfl ?_
  refine zw_49 (c := 51) (len := 10) zr_25_26 rfl rfl (by omega) (by omega) ?_
  intro m7 em7
  have hIm7 : zInv m7 := by rw [em7]; exact hIm6.any (by omega) rfl (by decide) (by decide)
  have hFm7 : zFr W_25 m0 m7 := by rw [em7]; exact hFm6.any rfl
  clear em7
  refine zw_R zr_25_27 (by decide) zm_25 (v := (9, 0)) rfl ?_
  rw [← hQ]; exact ⟨rfl, hIm7, hFm7⟩

abbrev W_26 : List (Nat × Nat) := [(43, 5), (44, 1000), (45, 9), (46, 1000), (49, 1000), (50, 1000), (51, 1000)]
set_option maxHeartbeats 8000000 in
theorem th_26 {E : zE} {d : Nat} {m0 : zM} {a0 : Int} (hd : 5 ≤ d) (hI0 : zInv m0) (ha0 : 0 ≤ a0 ∧ a0 ≤ 59) : zC E d 26 [(2, 43), (0, a0)] m0 (fun v m' => v = (9, 0) ∧ zInv m' ∧ zFr W_26 m0 m') := by
  have hF0 : zFr W_26 m0 m0 := zFr.rfl
  generalize hQ : (fun (v : zV) (m' : zM) => v = (9, 0) ∧ zInv m' ∧ zFr W_26 m0 m') = Q
  show zW E d 26 0 [(2, 43), (0, a0), (9, 0), (9, 0), (9, 0), (9, 0)] [] m0 Q
  refine zw_7 zr_26_0 rfl ?_
  refine zw_46r (s := 1) zr_26_1 rfl rfl rfl rfl ?_
  refine zw_46r (s := 6) zr_26_4 rfl rfl rfl rfl ?_
  refine zw_3 zr_26_7 rfl ?_
  refine zw_48 (c := 6) (len := 60) zr_26_8 rfl rfl (by omega) (by omega) ?_
  intro x1 ex1
  have bx1 := ib_6 hI0 (k := (a0).toNat) (by omega)
  rw [← ex1] at bx1
  clear ex1
  refine zw_9 (L' := [(2, 43), (0, a0), (0, x1), (9, 0), (9, 0), (9, 0)]) zr_26_9 (Nat.le_of_ble_eq_true rfl) rfl ?_
  refine zw_7 zr_26_10 rfl ?_
  refine zw_46r (s := 1) zr_26_11 rfl rfl rfl rfl ?_
  refine zw_46r (s := 7) zr_26_14 rfl rfl rfl rfl ?_
  refine zw_3 zr_26_17 rfl ?_
  refine zw_48 (c := 7) (len := 60) zr_26_18 rfl rfl (by omega) (by omega) ?_
  intro x2 ex2
  have bx2 := ib_7 hI0 (k := (a0).toNat) (by omega)
  rw [← ex2] at bx2
  clear ex2
  refine zw_9 (L' := [(2, 43), (0, a0), (0, x1), (0, x2), (9, 0), (9, 0)]) zr_26_19 (Nat.le_of_ble_eq_true rfl) rfl ?_
  refine zw_7 zr_26_20 rfl ?_
  refine zw_3 zr_26_21 rfl ?_
  refine zw_3 zr_26_22 rfl ?_
  refine zw_3 zr_26_23 rfl ?_
  refine zw_7 zr_26_24 rfl ?_
  refine zw_46r (s := 1) zr_26_25 rfl rfl rfl rfl ?_
  refine zw_46r (s := 8) zr_26_28 rfl rfl rfl rfl ?_
  refine zw_3 zr_26_31 rfl ?_
  refine zw_48 (c := 8) (len := 60) zr_26_32 rfl rfl (by omega) (by omega) ?_
  intro x3 ex3
  have bx3 := ib_8 hI0 (k := (a0).toNat) (by omega)
  rw [← ex3] at bx3
  clear ex3
  refine zw_C zr_26_33 (Or.inl rfl) zm_24 rfl rfl ⟨Nat.le_of_ble_eq_true rfl, Nat.le_of_ble_eq_true rfl, Nat.le_of_ble_eq_true rfl, rfl, by decide⟩ (by omega) (th_24 (d := d - 1) (by omega) hI0 (a0 := a0) (a1 := x1) (a2 := x2) (a3 := x3)      (by omega) (by omega) (by omega) (by omega) ) ?_
  rintro _ m4 ⟨r5, rfl, hr5a, hr5b, hIm4, gm4⟩
  have hFm4 : zFr W_26 m0 m4 := hF0.trans gm4 rfl
  show zW E (d) 26 36 [(2, 43), (0, a0), (0, x1), (0, x2), (9, 0), (9, 0)] [(0, r5)] m4 Q
  refine zw_10 (L' := [(2, 43), (0, a0), (0, x1), (0, x2), (0, r5), (9, 0)]) zr_26_36 (Nat.le_of_ble_eq_true rfl) rfl ?_
  refine zw_7 zr_26_38 rfl ?_
  refine zw_3 zr_26_39 rfl ?_
  refine zw_3 zr_26_40 rfl ?_
  refine zw_3 zr_26_41 rfl ?_
  refine zw_push zr_26_42 ?_
  refine zw_7 zr_26_43 rfl ?_
  refine zw_46r (s := 1) zr_26_44 rfl rfl rfl rfl ?_
  refine zw_46r (s := 8) zr_26_47 rfl rfl rfl rfl ?_
  refine zw_3 zr_26_50 rfl ?_
  refine zw_48 (c := 8) (len := 60) zr_26_51 rfl rfl (by omega) (by omega) ?_
  intro x6 ex6
  have bx6 := ib_8 hIm4 (k := (a0).toNat) (by omega)
  rw [← ex6] at bx6
  clear ex6
  refine zw_17 zr_26_52 (by omega) ?_
  refine zw_C zr_26_53 (Or.inl rfl) zm_24 rfl rfl ⟨Nat.le_of_ble_eq_true rfl, Nat.le_of_ble_eq_true rfl, Nat.le_of_ble_eq_true rfl, rfl, by decide⟩ (by omega) (th_24 (d := d - 1) (by omega) hIm4 (a0 := a0) (a1 := x2) (a2 := x1) (a3 := (2 - x6))      (by omega) (by omega) (by omega) (by omega) ) ?_
  rintro _ m7 ⟨r8, rfl, hr8a, hr8b, hIm7, gm7⟩
  have hFm7 : zFr W_26 m0 m7 := hFm4.trans gm7 rfl
  show zW E (d) 26 56 [(2, 43), (0, a0), (0, x1), (0, x2), (0, r5), (9, 0)] [(0, r8)] m7 Q
  refine zw_10 (L' := [(2, 43), (0, a0), (0, x1), (0, x2), (0, r5), (0, r8)]) zr_26_56 (Nat.le_of_ble_eq_true rfl) rfl ?_
  refine zw_7 zr_26_58 rfl ?_
  refine zw_3 zr_26_59 rfl ?_
  refine zw_4 zr_26_60 rfl ?_
  refine zw_7 zr_26_62 rfl ?_
  refine zw_46r (s := 1) zr_26_63 rfl rfl rfl rfl ?_
  refine zw_46r (s := 5) zr_26_66 rfl rfl rfl rfl ?_
  refine zw_3 zr_26_69 rfl ?_
  refine zw_48 (c := 5) (len := 60) zr_26_70 rfl rfl (by omega) (by omega) ?_
  intro x9 ex9
  have bx9 := ib_5 hIm7 (k := (a0).toNat) (by omega)
  rw [← ex9] at bx9
  clear ex9
  refine zw_C zr_26_71 (Or.inl rfl) zm_25 rfl rfl ⟨Nat.le_of_ble_eq_true rfl, Nat.le_of_ble_eq_true rfl, Nat.le_of_ble_eq_true rfl, rfl, by decide⟩ (by omega) (th_25 (d := d - 1) (by omega) hIm7 (a0 := x1) (a1 := r5) (a2 := x9)      (by omega) (by omega) (by omega) ) ?_
  rintro _ m10 ⟨rfl, hIm10, gm10⟩
  have hFm10 : zFr W_26 m0 m10 := hFm7.trans gm10 rfl
  show zW E (d) 26 74 [(2, 43), (0, a0), (0, x1), (0, x2), (0, r5), (0, r8)] [] m10 Q
  refine zw_7 zr_26_74 rfl ?_
  refine zw_3 zr_26_75 rfl ?_
  refine zw_4 zr_26_76 rfl ?_
  refine zw_7 zr_26_78 rfl ?_
  refine zw_46r (s := 1) zr_26_79 rfl rfl rfl rfl ?_
  refine zw_46r (s := 5) zr_26_82 rfl rfl rfl rfl ?_
  refine zw_3 zr_26_85 rfl ?_
  refine zw_48 (c := 5) (len := 60) zr_26_86 rfl rfl (by omega) (by omega) ?_
  intro x11 ex11
  have bx11 := ib_5 hIm10 (k := (a0).toNat) (by omega)
  rw [← ex11] at bx11
  clear ex11
  refine zw_C zr_26_87 (Or.inl rfl) zm_25 rfl rfl ⟨Nat.le_of_ble_eq_true rfl, Nat.le_of_ble_eq_true rfl, Nat.le_of_ble_eq_true rfl, rfl, by decide⟩ (by omega) (th_25 (d := d - 1) (by omega) hIm10 (a0 := x2) (a1 := r8) (a2 := x11)      (by omega) (by omega) (by omega) ) ?_
  rintro _ m12 ⟨rfl, hIm12, gm12⟩
  have hFm12 : zFr W_26 m0 m12 := hFm10.trans gm12 rfl
  show zW E (d) 26 90 [(2, 43), (0, a0), (0, x1), (0, x2), (0, r5), (0, r8)] [] m12 Q
  refine zw_7 zr_26_90 rfl ?_
  refine zw_4 zr_26_91 rfl ?_
  refine zw_4 zr_26_93 rfl ?_
  refine zw_16h zr_26_95 ?_
  intro x13 hx13a hx13b
  refine zw_47 (c := 43) zr_26_96 rfl ⟨rfl, by decide, rfl⟩ ?_
  intro m14 em14
  have hIm14 : zInv m14 := by rw [em14]; exact hIm12.any (by omega) rfl (by decide) (by decide)
  have hFm14 : zFr W_26 m0 m14 := by rw [em14]; exact hFm12.up rfl
  have km14_43_5 : m14 43 5 = x13 := by rw [em14]; exact zUp_eq _ _ _ _
  clear em14
  refine zw_R zr_26_99 (by decide) zm_26 (v := (9, 0)) rfl ?_
  rw [← hQ]; exact ⟨rfl, hIm14, hFm14⟩

abbrev W_41 : List (Nat × Nat) := [(43, 5), (44, 1000), (45, 9), (46, 1000), (49, 1000), (50, 1000), (51, 1000)]
set_option maxHeartbeats 8000000 in
theorem th_41 {E : zE} {d : Nat} {m0 : zM} {a0 : Int} (hd : 6 ≤ d) (hI0 : zInv m0) (ha0 : 0 ≤ a0 ∧ a0 ≤ 60) : zC E d 41 [(2, 43), (0, a0)] m0 (fun v m' => v = (9, 0) ∧ zInv m' ∧ zFr W_41 m0 m') := by
  have hF0 : zFr W_41 m0 m0 := zFr.rfl
  generalize hQ : (fun (v : zV) (m' : zM) => v = (9, 0) ∧ zInv m' ∧ zFr W_41 m0 m') = Q
  show zW E d 41 0 [(2, 43), (0, a0), (9, 0)] [] m0 Q
  refine zw_push zr_41_0 ?_
  refine zw_9 (L' := [(2, 43), (0, a0), (0, 0)]) zr_41_1 (Nat.le_of_ble_eq_true rfl) rfl ?_
  have lp2_3 : ∀ (nlp2_3 : Nat) (i1 : Int) (m2 : zM), zInv m2 → zFr W_41 m0 m2 → 0 ≤ i1 → i1 ≤ 60 → (60 - i1).toNat < nlp2_3 → zW E (d) 41 2 [(2, 43), (0, a0), (0, i1)] [] m2 Q := by
    intro nlp2_3
    induction nlp2_3 with
    | zero =>
      intros
      exact absurd (by assumption : _ < 0) (Nat.not_lt_zero _)
    | succ nlp2_3 ihlp2_3 =>
      intro i1 m2 hIm2 hFm2 li1 ui1 hmlp2_3
      refine zw_3 zr_41_2 rfl ?_
      refine zw_3 zr_41_3 rfl ?_
      refine zw_41_3 zr_41_4 ?_ ?_
      · intro h5
        refine zw_R zr_41_18 (by decide) zm_41 (v := (9, 0)) rfl ?_
        rw [← hQ]; exact ⟨rfl, hIm2, hFm2⟩
      · intro h6
        refine zw_7 zr_41_7 rfl ?_
        refine zw_3 zr_41_8 rfl ?_
        refine zw_C zr_41_9 (Or.inl rfl) zm_26 rfl rfl ⟨Nat.le_of_ble_eq_true rfl, Nat.le_of_ble_eq_true rfl, Nat.le_of_ble_eq_true rfl, rfl, by decide⟩ (by omega) (th_26 (d := d - 1) (by omega) hIm2 (a0 := i1)      (by omega) ) ?_
        rintro _ m7 ⟨rfl, hIm7, gm7⟩
        have hFm7 : zFr W_41 m0 m7 := hFm2.trans gm7 rfl
        show zW E (d) 41 12 [(2, 43), (0, a0), (0, i1)] [] m7 Q
        refine zw_15 (c := 1) (L' := [(2, 43), (0, a0), (0, (i1 + 1))]) zr_41_12 rfl (by decide) (by omega) rfl ?_
        refine zw_42 zr_41_15 ?_
        exact zw_less (L := [(2, 43), (0, a0), (0, (i1 + 1))]) ⟨Or.inr rfl, Or.inr rfl, Or.inr rfl, trivial⟩ (ihlp2_3 ((i1 + 1)) m7 hIm7 hFm7   (by omega) (by omega)  (by omega))
  exact lp2_3 _ (0) m0 hI0 hF0   (by omega) (by omega)  (Nat.lt_succ_self _)

abbrev W_109 : List (Nat × Nat) := [(43, 5), (44, 1000), (45, 1), (45, 5), (45, 6), (45, 7), (45, 8), (45, 9), (46, 1000), (47, 1000), (48, 1000), (49, 1000), (50, 1000), (51, 1000)]
set_option maxHeartbeats 8000000 in
theorem th_109 {E : zE} {d : Nat} {m0 : zM} {a0 : Int} {a1 : Int} {a2 : Int} (hd : 95 ≤ d) (hI0 : zInv m0) (ha0 : (-2147483648) ≤ a0 ∧ a0 ≤ 2147483647) (ha1 : (-2147483648) ≤ a1 ∧ a1 ≤ 2147483647) (ha2 : (-2147483648) ≤ a2 ∧ a2 ≤ 2147483647) : zC E d 109 [(2, 0), (0, a0), (0, a1), (0, a2)] m0 (fun v m' => ∃ r : Int, v = (0, r) ∧ (-2147483648) ≤ r ∧ r ≤ 2147483647 ∧ zInv m' ∧ zFr W_109 m0 m') := by
  have hF0 : zFr W_109 m0 m0 := zFr.rfl
  generalize hQ : (fun (v : zV) (m' : zM) => ∃ r : Int, v = (0, r) ∧ (-2147483648) ≤ r ∧ r ≤ 2147483647 ∧ zInv m' ∧ zFr W_109 m0 m') = Q
  show zW E d 109 0 [(2, 0), (0, a0), (0, a1), (0, a2)] [] m0 Q
  refine zw_3 zr_109_0 rfl ?_
  refine zw_C zr_109_1 (Or.inr rfl) zm_104 rfl rfl ⟨Nat.le_of_ble_eq_true rfl, Nat.le_of_ble_eq_true rfl, Nat.le_of_ble_eq_true rfl, rfl, by decide⟩ (by omega) (P := (fun v m' => zW E (d) 109 4 [(2, 0), (0, a0), (0, a1), (0, a2)] (if v.1 = 9 then [] else v :: []) m' Q)) ?_ (fun _ _ h => h)
  generalize hQ1 : (fun v m' => zW E (d) 109 4 [(2, 0), (0, a0), (0, a1), (0, a2)] (if v.1 = 9 then [] else v :: []) m' Q) = Q1
  show zW E (d - 1) 104 0 [(0, a0)] [] m0 Q1
  refine zw_3 zr_104_0 rfl ?_
  refine zw_push zr_104_1 ?_
  refine zw_push zr_104_2 ?_
  refine zw_C zr_104_3 (Or.inr rfl) zm_100 rfl rfl ⟨Nat.le_of_ble_eq_true rfl, Nat.le_of_ble_eq_true rfl, Nat.le_of_ble_eq_true rfl, rfl, by decide⟩ (by omega) (P := (fun v m' => zW E (d - 1) 104 6 [(0, a0)] (if v.1 = 9 then [] else v :: []) m' Q1)) ?_ (fun _ _ h => h)
  generalize hQ2 : (fun v m' => zW E (d - 1) 104 6 [(0, a0)] (if v.1 = 9 then [] else v :: []) m' Q1) = Q2
  show zW E (d - 1 - 1) 100 0 [(0, a0), (0, 0), (0, 3)] [] m0 Q2
  refine zw_3 zr_100_0 rfl ?_
  refine zw_3 zr_100_1 rfl ?_
  refine zw_41_0 zr_100_2 ?_ ?_
  · intro h1
    refine zw_push zr_100_14 ?_
    refine zw_R zr_100_15 (by decide) zm_100 (v := (0, 0)) (zRetB (by omega)) ?_
    rw [← hQ2]
    show zW E (d - 1) 104 6 [(0, a0)] [(0, 0)] m0 Q1
    refine zw_R zr_104_6 (by decide) zm_104 (v := (0, 0)) (zRetB (by omega)) ?_
    rw [← hQ1]
    show zW E (d) 109 4 [(2, 0), (0, a0), (0, a1), (0, a2)] [(0, 0)] m0 Q
    refine zw_40_1 zr_109_4 ?_ ?_
    · intro h2
      refine zw_push zr_109_33 ?_
      refine zw_R zr_109_35 (by decide) zm_109 (v := (0, (-100000))) rfl ?_
      rw [← hQ]; exact ⟨_, rfl, by omega, by omega, hI0, hF0⟩
    · intro h3; omega
  · intro h4
    refine zw_3 zr_100_5 rfl ?_
    refine zw_3 zr_100_6 rfl ?_
    refine zw_41_2 zr_100_7 ?_ ?_
    · intro h5
      refine zw_push zr_100_14 ?_
      refine zw_R zr_100_15 (by decide) zm_100 (v := (0, 0)) (zRetB (by omega)) ?_
      rw [← hQ2]
      show zW E (d - 1) 104 6 [(0, a0)] [(0, 0)] m0 Q1
      refine zw_R zr_104_6 (by decide) zm_104 (v := (0, 0)) (zRetB (by omega)) ?_
      rw [← hQ1]
      show zW E (d) 109 4 [(2, 0), (0, a0), (0, a1), (0, a2)] [(0, 0)] m0 Q
      refine zw_40_1 zr_109_4 ?_ ?_
      · intro h6
        refine zw_push zr_109_33 ?_
        refine zw_R zr_109_35 (by decide) zm_109 (v := (0, (-100000))) rfl ?_
        rw [← hQ]; exact ⟨_, rfl, by omega, by omega, hI0, hF0⟩
      · intro h7; omega
    · intro h8
      refine zw_push zr_100_10 ?_
      refine zw_42 zr_100_11 ?_
      refine zw_R zr_100_15 (by decide) zm_100 (v := (0, 1)) (zRetB (by omega)) ?_
      rw [← hQ2]
      show zW E (d - 1) 104 6 [(0, a0)] [(0, 1)] m0 Q1
      refine zw_R zr_104_6 (by decide) zm_104 (v := (0, 1)) (zRetB (by omega)) ?_
      rw [← hQ1]
      show zW E (d) 109 4 [(2, 0), (0, a0), (0, a1), (0, a2)] [(0, 1)] m0 Q
      refine zw_40_1 zr_109_4 ?_ ?_
      · intro h9; omega
      · intro h10
        refine zw_7 zr_109_7 rfl ?_
        refine zw_46r (s := 1) zr_109_8 rfl rfl rfl rfl ?_
        refine zw_3 zr_109_11 rfl ?_
        refine zw_C zr_109_12 (Or.inl rfl) zm_49 rfl rfl ⟨Nat.le_of_ble_eq_true rfl, Nat.le_of_ble_eq_true rfl, Nat.le_of_ble_eq_true rfl, rfl, by decide⟩ (by omega) (P := (fun v m' => zW E (d) 109 15 [(2, 0), (0, a0), (0, a1), (0, a2)] (if v.1 = 9 then [] else v :: []) m' Q)) ?_ (fun _ _ h => h)
        generalize hQ1 : (fun v m' => zW E (d) 109 15 [(2, 0), (0, a0), (0, a1), (0, a2)] (if v.1 = 9 then [] else v :: []) m' Q) = Q1
        show zW E (d - 1) 49 0 [(2, 1), (0, a1)] [] m0 Q1
        refine zw_3 zr_49_0 rfl ?_
        refine zw_40_0 zr_49_1 ?_ ?_
        · intro h11
          refine zw_push zr_49_16 ?_
          refine zw_R zr_49_17 (by decide) zm_49 (v := (0, 0)) (zRetB (by omega)) ?_
          rw [← hQ1]
          show zW E (d) 109 15 [(2, 0), (0, a0), (0, a1), (0, a2)] [(0, 0)] m0 Q
          refine zw_40_1 zr_109_15 ?_ ?_
          · intro h12
            refine zw_push zr_109_33 ?_
            refine zw_R zr_109_35 (by decide) zm_109 (v := (0, (-100000))) rfl ?_
            rw [← hQ]; exact ⟨_, rfl, by omega, by omega, hI0, hF0⟩
          · intro h13; omega
        · intro h14
          refine zw_3 zr_49_4 rfl ?_
          refine zw_7 zr_49_5 rfl ?_
          obtain ⟨f15, ef15⟩ : ∃ v, m0 1 0 = v := ⟨_, rfl⟩
          have bf15 := ib_1_0 hI0
          rw [ef15] at bf15
          refine zw_46i zr_49_6 ef15 rfl rfl rfl ?_
          refine zw_41_3 zr_49_9 ?_ ?_
          · intro h16
            refine zw_push zr_49_16 ?_
            refine zw_R zr_49_17 (by decide) zm_49 (v := (0, 0)) (zRetB (by omega)) ?_
            rw [← hQ1]
            show zW E (d) 109 15 [(2, 0), (0, a0), (0, a1), (0, a2)] [(0, 0)] m0 Q
            refine zw_40_1 zr_109_15 ?_ ?_
            · intro h17
              refine zw_push zr_109_33 ?_
              refine zw_R zr_109_35 (by decide) zm_109 (v := (0, (-100000))) rfl ?_
              rw [← hQ]; exact ⟨_, rfl, by omega, by omega, hI0, hF0⟩
            · intro h18; omega
          · intro h19
            refine zw_push zr_49_12 ?_
            refine zw_42 zr_49_13 ?_
            refine zw_R zr_49_17 (by decide) zm_49 (v := (0, 1)) (zRetB (by omega)) ?_
            rw [← hQ1]
            show zW E (d) 109 15 [(2, 0), (0, a0), (0, a1), (0, a2)] [(0, 1)] m0 Q
            refine zw_40_1 zr_109_15 ?_ ?_
            · intro h20; omega
            · intro h21
              refine zw_3 zr_109_18 rfl ?_
              refine zw_push zr_109_19 ?_
              refine zw_7 zr_109_20 rfl ?_
              refine zw_46r (s := 1) zr_109_21 rfl rfl rfl rfl ?_
              obtain ⟨f22, ef22⟩ : ∃ v, m0 1 1 = v := ⟨_, rfl⟩
              have bf22 := ib_1_1 hI0
              rw [ef22] at bf22
              refine zw_46i zr_109_24 ef22 rfl rfl rfl ?_
              refine zw_C zr_109_27 (Or.inr rfl) zm_100 rfl rfl ⟨Nat.le_of_ble_eq_true rfl, Nat.le_of_ble_eq_true rfl, Nat.le_of_ble_eq_true rfl, rfl, by decide⟩ (by omega) (P := (fun v m' => zW E (d) 109 30 [(2, 0), (0, a0), (0, a1), (0, a2)] (if v.1 = 9 then [] else v :: []) m' Q)) ?_ (fun _ _ h => h)
              generalize hQ1 : (fun v m' => zW E (d) 109 30 [(2, 0), (0, a0), (0, a1), (0, a2)] (if v.1 = 9 then [] else v :: []) m' Q) = Q1
              show zW E (d - 1) 100 0 [(0, a2), (0, 0), (0, f22)] [] m0 Q1
              refine zw_3 zr_100_0 rfl ?_
              refine zw_3 zr_100_1 rfl ?_
              refine zw_41_0 zr_100_2 ?_ ?_
              · intro h23
                refine zw_push zr_100_14 ?_
                refine zw_R zr_100_15 (by decide) zm_100 (v := (0, 0)) (zRetB (by omega)) ?_
                rw [← hQ1]
                show zW E (d) 109 30 [(2, 0), (0, a0), (0, a1), (0, a2)] [(0, 0)] m0 Q
                refine zw_40_4 zr_109_30 ?_ ?_
                · intro h24; omega
                · intro h25
                  refine zw_push zr_109_33 ?_
                  refine zw_R zr_109_35 (by decide) zm_109 (v := (0, (-100000))) rfl ?_
                  rw [← hQ]; exact ⟨_, rfl, by omega, by omega, hI0, hF0⟩
              · intro h26
                refine zw_3 zr_100_5 rfl ?_
                refine zw_3 zr_100_6 rfl ?_
                refine zw_41_2 zr_100_7 ?_ ?_
                · intro h27
                  refine zw_push zr_100_14 ?_
                  refine zw_R zr_100_15 (by decide) zm_100 (v := (0, 0)) (zRetB (by omega)) ?_
                  rw [← hQ1]
                  show zW E (d) 109 30 [(2, 0), (0, a0), (0, a1), (0, a2)] [(0, 0)] m0 Q
                  refine zw_40_4 zr_109_30 ?_ ?_
                  · intro h28; omega
                  · intro h29
                    refine zw_push zr_109_33 ?_
                    refine zw_R zr_109_35 (by decide) zm_109 (v := (0, (-100000))) rfl ?_
                    rw [← hQ]; exact ⟨_, rfl, by omega, by omega, hI0, hF0⟩
                · intro h30
                  refine zw_push zr_100_10 ?_
                  refine zw_42 zr_100_11 ?_
                  refine zw_R zr_100_15 (by decide) zm_100 (v := (0, 1)) (zRetB (by omega)) ?_
                  rw [← hQ1]
                  show zW E (d) 109 30 [(2, 0), (0, a0), (0, a1), (0, a2)] [(0, 1)] m0 Q
                  refine zw_40_4 zr_109_30 ?_ ?_
                  · intro h31
                    refine zw_7 zr_109_36 rfl ?_
                    refine zw_46r (s := 43) zr_109_37 rfl rfl rfl rfl ?_
                    refine zw_3 zr_109_40 rfl ?_
                    refine zw_C zr_109_41 (Or.inl rfl) zm_16 rfl rfl ⟨Nat.le_of_ble_eq_true rfl, Nat.le_of_ble_eq_true rfl, Nat.le_of_ble_eq_true rfl, rfl, by decide⟩ (by omega) (th_16 (d := d - 1) (by omega) hI0 (a0 := a0)      (by omega) ) ?_
                    rintro _ m32 ⟨rfl, hIm32, gm32⟩
                    have hFm32 : zFr W_109 m0 m32 := hF0.trans gm32 rfl
                    have km32_1_0 : m32 1 0 = f15 := (gm32 1 0 rfl).trans ef15
                    have km32_1_1 : m32 1 1 = f22 := (gm32 1 1 rfl).trans ef22
                    show zW E (d) 109 44 [(2, 0), (0, a0), (0, a1), (0, a2)] [] m32 Q
                    refine zw_7 zr_109_44 rfl ?_
                    refine zw_46r (s := 43) zr_109_45 rfl rfl rfl rfl ?_
                    refine zw_3 zr_109_48 rfl ?_
                    refine zw_C zr_109_49 (Or.inl rfl) zm_41 rfl rfl ⟨Nat.le_of_ble_eq_true rfl, Nat.le_of_ble_eq_true rfl, Nat.le_of_ble_eq_true rfl, rfl, by decide⟩ (by omega) (th_41 (d := d - 1) (by omega) hIm32 (a0 := a2)      (by omega) ) ?_
                    rintro _ m33 ⟨rfl, hIm33, gm33⟩
                    have hFm33 : zFr W_109 m0 m33 := hFm32.trans gm33 rfl
                    have km33_1_0 : m33 1 0 = f15 := (gm33 1 0 rfl).trans km32_1_0
                    have km33_1_1 : m33 1 1 = f22 := (gm33 1 1 rfl).trans km32_1_1
                    show zW E (d) 109 52 [(2, 0), (0, a0), (0, a1), (0, a2)] [] m33 Q
                    refine zw_7 zr_109_52 rfl ?_
                    refine zw_46r (s := 43) zr_109_53 rfl rfl rfl rfl ?_
                    refine zw_46r (s := 44) zr_109_56 rfl rfl rfl rfl ?_
                    refine zw_3 zr_109_59 rfl ?_
                    refine zw_48 (c := 44) (len := 10) zr_109_60 rfl rfl (by omega) (by omega) ?_
                    intro x34 ex34
                    have bx34 := hIm33.ra (c := 44) (len := 10) (k := (a1).toNat) rfl (by omega)
                    rw [← ex34] at bx34
                    clear ex34
                    refine zw_R zr_109_61 (by decide) zm_109 (v := (0, x34)) rfl ?_
                    rw [← hQ]; exact ⟨_, rfl, by omega, by omega, hIm33, hFm33⟩
                  · intro h35; omega

abbrev W_164 : List (Nat × Nat) := [(76, 1000), (77, 1000), (78, 1000)]
set_option maxHeartbeats 8000000 in
theorem th_164 {E : zE} {d : Nat} {m0 : zM} {a0 : Int} (hd : 1 ≤ d) (hI0 : zInv m0) (ha0 : 0 ≤ a0 ∧ a0 ≤ 3) : zC E d 164 [(2, 69), (0, a0)] m0 (fun v m' => v = (9, 0) ∧ zInv m' ∧ zFr W_164 m0 m') := by
  have hF0 : zFr W_164 m0 m0 := zFr.rfl
  generalize hQ : (fun (v : zV) (m' : zM) => v = (9, 0) ∧ zInv m' ∧ zFr W_164 m0 m') = Q
  show zW E d 164 0 [(2, 69), (0, a0), (9, 0)] [] m0 Q
  refine zw_push zr_164_0 ?_
  refine zw_9 (L' := [(2, 69), (0, a0), (0, 0)]) zr_164_1 (Nat.le_of_ble_eq_true rfl) rfl ?_
  have lp2_3 : ∀ (nlp2_3 : Nat) (i1 : Int) (m2 : zM), zInv m2 → zFr W_164 m0 m2 → 0 ≤ i1 → i1 ≤ 10 → (10 - i1).toNat < nlp2_3 → zW E (d) 164 2 [(2, 69), (0, a0), (0, i1)] [] m2 Q := by
    intro nlp2_3
    induction nlp2_3 with
    | zero =>
      intros
      exact absurd (by assumption : _ < 0) (Nat.not_lt_zero _)
    | succ nlp2_3 ihlp2_3 =>
      intro i1 m2 hIm2 hFm2 li1 ui1 hmlp2_3
      refine zw_3 zr_164_2 rfl ?_
      refine zw_push zr_164_3 ?_
      refine zw_41_3 zr_164_5 ?_ ?_
      · intro h5
        refine zw_R zr_164_47 (by decide) zm_164 (v := (9, 0)) rfl ?_
        rw [← hQ]; exact ⟨rfl, hIm2, hFm2⟩
      · intro h6
        refine zw_7 zr_164_8 rfl ?_
        refine zw_46r (s := 76) zr_164_9 rfl rfl rfl rfl ?_
        refine zw_3 zr_164_12 rfl ?_
        refine zw_7 zr_164_13 rfl ?_
        refine zw_46r (s := 70) zr_164_14 rfl rfl rfl rfl ?_
        refine zw_push zr_164_17 ?_
        refine zw_push zr_164_20 ?_
        refine zw_3 zr_164_22 rfl ?_
        refine zw_18 zr_164_23 (by omega) ?_
        refine zw_16 zr_164_24 (by omega) ?_
        refine zw_48 (c := 70) (len := 826) zr_164_25 rfl rfl (by omega) (by omega) ?_
        intro x7 ex7
        have bx7 := ib_70_s0 hIm2 (k := ((450 + (52 * a0))).toNat) (by omega)
        rw [← ex7] at bx7
        clear ex7
        refine zw_49 (c := 76) (len := 10) zr_164_26 rfl rfl (by omega) (by omega) ?_
        intro m8 em8
        have hIm8 : zInv m8 := by rw [em8]; exact hIm2.any (by omega) rfl (by decide) (by decide)
        have hFm8 : zFr W_164 m0 m8 := by rw [em8]; exact hFm2.any rfl
        clear em8
        refine zw_7 zr_164_27 rfl ?_
        refine zw_46r (s := 77) zr_164_28 rfl rfl rfl rfl ?_
        refine zw_3 zr_164_31 rfl ?_
        refine zw_push zr_164_32 ?_
        refine zw_49 (c := 77) (len := 10) zr_164_33 rfl rfl (by omega) (by omega) ?_
        intro m9 em9
        have hIm9 : zInv m9 := by rw [em9]; exact hIm8.any (by omega) rfl (by decide) (by decide)
        have hFm9 : zFr W_164 m0 m9 := by rw [em9]; exact hFm8.any rfl
        clear em9
        refine zw_7 zr_164_34 rfl ?_
        refine zw_46r (s := 78) zr_164_35 rfl rfl rfl rfl ?_
        refine zw_3 zr_164_38 rfl ?_
        refine zw_push zr_164_39 ?_
        refine zw_49 (c := 78) (len := 10) zr_164_40 rfl rfl (by omega) (by omega) ?_
        intro m10 em10
        have hIm10 : zInv m10 := by rw [em10]; exact hIm9.any (by omega) rfl (by decide) (by decide)
        have hFm10 : zFr W_164 m0 m10 := by rw [em10]; exact hFm9.any rfl
        clear em10
        refine zw_15 (c := 1) (L' := [(2, 69), (0, a0), (0, (i1 + 1))]) zr_164_41 rfl (by decide) (by omega) rfl ?_
        refine zw_42 zr_164_44 ?_
        exact zw_less (L := [(2, 69), (0, a0), (0, (i1 + 1))]) ⟨Or.inr rfl, Or.inr rfl, Or.inr rfl, trivial⟩ (ihlp2_3 ((i1 + 1)) m10 hIm10 hFm10   (by omega) (by omega)  (by omega))
  exact lp2_3 _ (0) m0 hI0 hF0   (by omega) (by omega)  (Nat.lt_succ_self _)

abbrev W_165 : List (Nat × Nat) := [(69, 6), (69, 7), (69, 9), (69, 11), (69, 13), (73, 1000), (74, 1000), (75, 1000)]
set_option maxHeartbeats 8000000 in
theorem th_165 {E : zE} {d : Nat} {m0 : zM} {a0 : Int} {a1 : Int} {a2 : Int} {a3 : Int} (hd : 4 ≤ d) (hI0 : zInv m0) (ha0 : 0 ≤ a0 ∧ a0 ≤ 59) (ha1 : 0 ≤ a1 ∧ a1 ≤ 9) (ha2 : 0 ≤ a2 ∧ a2 ≤ 9) (ha3 : 0 ≤ a3 ∧ a3 ≤ 2) : zC E d 165 [(2, 69), (0, a0), (0, a1), (0, a2), (0, a3)] m0 (fun v m' => ∃ r : Int, v = (0, r) ∧ (-2147483648) ≤ r ∧ r ≤ 2147483647 ∧ zInv m' ∧ zFr W_165 m0 m') := by
  have hF0 : zFr W_165 m0 m0 := zFr.rfl
  generalize hQ : (fun (v : zV) (m' : zM) => ∃ r : Int, v = (0, r) ∧ (-2147483648) ≤ r ∧ r ≤ 2147483647 ∧ zInv m' ∧ zFr W_165 m0 m') = Q
  show zW E d 165 0 [(2, 69), (0, a0), (0, a1), (0, a2), (0, a3)] [] m0 Q
  refine zw_7 zr_165_0 rfl ?_
  refine zw_46r (s := 75) zr_165_1 rfl rfl rfl rfl ?_
  refine zw_push zr_165_4 ?_
  refine zw_7 zr_165_5 rfl ?_
  refine zw_46r (s := 76) zr_165_6 rfl rfl rfl rfl ?_
  refine zw_3 zr_165_9 rfl ?_
  refine zw_48 (c := 76) (len := 10) zr_165_10 rfl rfl (by omega) (by omega) ?_
  intro x1 ex1
  have bx1 := hI0.ra (c := 76) (len := 10) (k := (a1).toNat) rfl (by omega)
  rw [← ex1] at bx1
  clear ex1
  refine zw_36 zr_165_11 ?_
  refine zw_51 (c := 75) (len := 6) zr_165_12 rfl rfl (by omega) (by omega) ?_
  intro m2 em2
  have hIm2 : zInv m2 := by rw [em2]; exact hI0.anyl (by omega) (zK3 rfl) rfl (by decide) (by decide)
  have hFm2 : zFr W_165 m0 m2 := by rw [em2]; exact hF0.any rfl
  clear em2
  refine zw_7 zr_165_13 rfl ?_
  refine zw_46r (s := 75) zr_165_14 rfl rfl rfl rfl ?_
  refine zw_push zr_165_17 ?_
  refine zw_7 zr_165_18 rfl ?_
  refine zw_46r (s := 76) zr_165_19 rfl rfl rfl rfl ?_
  refine zw_3 zr_165_22 rfl ?_
  refine zw_48 (c := 76) (len := 10) zr_165_23 rfl rfl (by omega) (by omega) ?_
  intro x3 ex3
  have bx3 := hIm2.ra (c := 76) (len := 10) (k := (a2).toNat) rfl (by omega)
  rw [← ex3] at bx3
  clear ex3
  refine zw_36 zr_165_24 ?_
  refine zw_51 (c := 75) (len := 6) zr_165_25 rfl rfl (by omega) (by omega) ?_
  intro m4 em4
  have hIm4 : zInv m4 := by rw [em4]; exact hIm2.anyl (by omega) (zK3 rfl) rfl (by decide) (by decide)
  have hFm4 : zFr W_165 m0 m4 := by rw [em4]; exact hFm2.any rfl
  clear em4
  refine zw_7 zr_165_26 rfl ?_
  refine zw_46r (s := 75) zr_165_27 rfl rfl rfl rfl ?_
  refine zw_push zr_165_30 ?_
  refine zw_4 zr_165_31 rfl ?_
  refine zw_36 zr_165_33 ?_
  refine zw_51 (c := 75) (len := 6) zr_165_34 rfl rfl (by omega) (by omega) ?_
  intro m5 em5
  have hIm5 : zInv m5 := by rw [em5]; exact hIm4.anyl (by omega) (zK3 rfl) rfl (by decide) (by decide)
  have hFm5 : zFr W_165 m0 m5 := by rw [em5]; exact hFm4.any rfl
  clear em5
  refine zw_7 zr_165_35 rfl ?_
  refine zw_46r (s := 75) zr_165_36 rfl rfl rfl rfl ?_
  refine zw_push zr_165_39 ?_
  refine zw_7 zr_165_40 rfl ?_
  refine zw_46r (s := 77) zr_165_41 rfl rfl rfl rfl ?_
  refine zw_3 zr_165_44 rfl ?_
  refine zw_48 (c := 77) (len := 10) zr_165_45 rfl rfl (by omega) (by omega) ?_
  intro x6 ex6
  have bx6 := hIm5.ra (c := 77) (len := 10) (k := (a1).toNat) rfl (by omega)
  rw [← ex6] at bx6
  clear ex6
  refine zw_36 zr_165_46 ?_
  refine zw_51 (c := 75) (len := 6) zr_165_47 rfl rfl (by omega) (by omega) ?_
  intro m7 em7
  have hIm7 : zInv m7 := by rw [em7]; exact hIm5.anyl (by omega) (zK3 rfl) rfl (by decide) (by decide)
  have hFm7 : zFr W_165 m0 m7 := by rw [em7]; exact hFm5.any rfl
  clear em7
  refine zw_7 zr_165_48 rfl ?_
  refine zw_46r (s := 75) zr_165_49 rfl rfl rfl rfl ?_
  refine zw_push zr_165_52 ?_
  refine zw_7 zr_165_53 rfl ?_
  refine zw_46r (s := 78) zr_165_54 rfl rfl rfl rfl ?_
  refine zw_3 zr_165_57 rfl ?_
  refine zw_48 (c := 78) (len := 10) zr_165_58 rfl rfl (by omega) (by omega) ?_
  intro x8 ex8
  have bx8 := hIm7.ra (c := 78) (len := 10) (k := (a1).toNat) rfl (by omega)
  rw [← ex8] at bx8
  refine zw_push zr_165_59 ?_
  refine zw_41_4 zr_165_60 ?_ ?_
  · intro h9
    refine zw_7 zr_165_67 rfl ?_
    refine zw_3 zr_165_68 rfl ?_
    refine zw_push zr_165_69 ?_
    refine zw_C zr_165_70 (Or.inl rfl) zm_144 rfl rfl ⟨Nat.le_of_ble_eq_true rfl, Nat.le_of_ble_eq_true rfl, Nat.le_of_ble_eq_true rfl, rfl, by decide⟩ (by omega) (P := (fun v m' => zW E (d) 165 73 [(2, 69), (0, a0), (0, a1), (0, a2), (0, a3)] (if v.1 = 9 then [(0, 4), (2, 75)] else v :: [(0, 4), (2, 75)]) m' Q)) ?_ (fun _ _ h => h)
    generalize hQ1 : (fun v m' => zW E (d) 165 73 [(2, 69), (0, a0), (0, a1), (0, a2), (0, a3)] (if v.1 = 9 then [(0, 4), (2, 75)] else v :: [(0, 4), (2, 75)]) m' Q) = Q1
    show zW E (d - 1) 144 0 [(2, 69), (0, a0), (0, 0)] [] m7 Q1
    refine zw_7 zr_144_0 rfl ?_
    refine zw_46r (s := 70) zr_144_1 rfl rfl rfl rfl ?_
    refine zw_push zr_144_4 ?_
    refine zw_push zr_144_6 ?_
    refine zw_3 zr_144_8 rfl ?_
    refine zw_18 zr_144_9 (by omega) ?_
    refine zw_16 zr_144_10 (by omega) ?_
    refine zw_3 zr_144_11 rfl ?_
    refine zw_16 zr_144_12 (by omega) ?_
    refine zw_48 (c := 70) (len := 826) zr_144_13 rfl rfl (by omega) (by omega) ?_
    intro x10 ex10
    have bx10 := ib_70_m0 hIm7 (k := (((90 + (6 * a0)) + 0)).toNat) (by omega)
    rw [← ex10] at bx10
    clear ex10
    refine zw_R zr_144_14 (by decide) zm_144 (v := (0, x10)) rfl ?_
    rw [← hQ1]
    show zW E (d) 165 73 [(2, 69), (0, a0), (0, a1), (0, a2), (0, a3)] [(0, x10), (0, 4), (2, 75)] m7 Q
    refine zw_7 zr_165_73 rfl ?_
    refine zw_46r (s := 78) zr_165_74 rfl rfl rfl rfl ?_
    refine zw_3 zr_165_77 rfl ?_
    refine zw_48k (c := 78) (len := 10) zr_165_78 rfl rfl (by omega) (by omega) rfl ex8.symm ?_
    refine zw_17h zr_165_79 ?_
    intro x11 hx11a hx11b
    refine zw_36 zr_165_80 ?_
    refine zw_51 (c := 75) (len := 6) zr_165_81 rfl rfl (by omega) (by omega) ?_
    intro m12 em12
    have hIm12 : zInv m12 := by rw [em12]; exact hIm7.anyl (by omega) (zK3 rfl) rfl (by decide) (by decide)
    have hFm12 : zFr W_165 m0 m12 := by rw [em12]; exact hFm7.any rfl
    clear em12
    refine zw_7 zr_165_82 rfl ?_
    refine zw_46r (s := 75) zr_165_83 rfl rfl rfl rfl ?_
    refine zw_push zr_165_86 ?_
    refine zw_7 zr_165_87 rfl ?_
    refine zw_3 zr_165_88 rfl ?_
    refine zw_push zr_165_89 ?_
    refine zw_C zr_165_90 (Or.inl rfl) zm_144 rfl rfl ⟨Nat.le_of_ble_eq_true rfl, Nat.le_of_ble_eq_true rfl, Nat.le_of_ble_eq_true rfl, rfl, by decide⟩ (by omega) (P := (fun v m' => zW E (d) 165 93 [(2, 69), (0, a0), (0, a1), (0, a2), (0, a3)] (if v.1 = 9 then [(0, 5), (2, 75)] else v :: [(0, 5), (2, 75)]) m' Q)) ?_ (fun _ _ h => h)
    generalize hQ1 : (fun v m' => zW E (d) 165 93 [(2, 69), (0, a0), (0, a1), (0, a2), (0, a3)] (if v.1 = 9 then [(0, 5), (2, 75)] else v :: [(0, 5), (2, 75)]) m' Q) = Q1
    show zW E (d - 1) 144 0 [(2, 69), (0, a0), (0, 4)] [] m12 Q1
    refine zw_7 zr_144_0 rfl ?_
    refine zw_46r (s := 70) zr_144_1 rfl rfl rfl rfl ?_
    refine zw_push zr_144_4 ?_
    refine zw_push zr_144_6 ?_
    refine zw_3 zr_144_8 rfl ?_
    refine zw_18 zr_144_9 (by omega) ?_
    refine zw_16 zr_144_10 (by omega) ?_
    refine zw_3 zr_144_11 rfl ?_
    refine zw_16 zr_144_12 (by omega) ?_
    refine zw_48 (c := 70) (len := 826) zr_144_13 rfl rfl (by omega) (by omega) ?_
    intro x13 ex13
    have bx13 := ib_70_m4 hIm12 (k := (((90 + (6 * a0)) + 4)).toNat) (by omega)
    rw [← ex13] at bx13
    clear ex13
    refine zw_R zr_144_14 (by decide) zm_144 (v := (0, x13)) rfl ?_
    rw [← hQ1]
    show zW E (d) 165 93 [(2, 69), (0, a0), (0, a1), (0, a2), (0, a3)] [(0, x13), (0, 5), (2, 75)] m12 Q
    refine zw_36 zr_165_93 ?_
    refine zw_51 (c := 75) (len := 6) zr_165_94 rfl rfl (by omega) (by omega) ?_
    intro m14 em14
    have hIm14 : zInv m14 := by rw [em14]; exact hIm12.anyl (by omega) (zK3 rfl) rfl (by decide) (by decide)
    have hFm14 : zFr W_165 m0 m14 := by rw [em14]; exact hFm12.any rfl
    clear em14
    refine zw_7 zr_165_95 rfl ?_
    refine zw_C zr_165_96 (Or.inl rfl) zm_161 rfl rfl ⟨Nat.le_of_ble_eq_true rfl, Nat.le_of_ble_eq_true rfl, Nat.le_of_ble_eq_true rfl, rfl, by decide⟩ (by omega) (th_161 (d := d - 1) (by omega) hIm14    (F74 := m14 74)  rfl  ) ?_
    rintro _ m15 ⟨r16, rfl, hr16a, hr16b, hIm15, gm15⟩
    have hFm15 : zFr W_165 m0 m15 := hFm14.trans gm15 rfl
    show zW E (d) 165 99 [(2, 69), (0, a0), (0, a1), (0, a2), (0, a3)] [(0, r16)] m15 Q
    refine zw_40_4 zr_165_99 ?_ ?_
    · intro h17
      refine zw_7 zr_165_104 rfl ?_
      obtain ⟨f18, ef18⟩ : ∃ v, m15 69 13 = v := ⟨_, rfl⟩
      have bf18 := hIm15.fl (c := 69) (k := 13) rfl
      rw [ef18] at bf18
      refine zw_46l zr_165_105 ef18 rfl rfl rfl ?_
      refine zw_push zr_165_108 ?_
      refine zw_39_3 zr_165_111 zr_165_112 ?_ ?_
      · intro h19
        refine zw_7 zr_165_121 rfl ?_
        refine zw_46l zr_165_122 ef18 rfl rfl rfl ?_
        refine zw_push zr_165_125 ?_
        refine zw_39_5 zr_165_128 zr_165_129 ?_ ?_
        · intro h20
          refine zw_7 zr_165_138 rfl ?_
          refine zw_46l zr_165_139 ef18 rfl rfl rfl ?_
          refine zw_37h zr_165_142 ?_
          intro x21 hx21a hx21b
          refine zw_R zr_165_143 (by decide) zm_165 (v := (0, x21)) rfl ?_
          rw [← hQ]; exact ⟨_, rfl, by omega, by omega, hIm15, hFm15⟩
        · intro h22
          refine zw_push zr_165_132 ?_
          refine zw_42 zr_165_135 ?_
          refine zw_37h zr_165_142 ?_
          intro x23 hx23a hx23b
          refine zw_R zr_165_143 (by decide) zm_165 (v := (0, x23)) rfl ?_
          rw [← hQ]; exact ⟨_, rfl, by omega, by omega, hIm15, hFm15⟩
      · intro h24
        refine zw_push zr_165_115 ?_
        refine zw_42 zr_165_118 ?_
        refine zw_37h zr_165_142 ?_
        intro x25 hx25a hx25b
        refine zw_R zr_165_143 (by decide) zm_165 (v := (0, x25)) rfl ?_
        rw [← hQ]; exact ⟨_, rfl, by omega, by omega, hIm15, hFm15⟩
    · intro h26
      refine zw_push zr_165_102 ?_
      refine zw_R zr_165_103 (by decide) zm_165 (v := (0, 0)) rfl ?_
      rw [← hQ]; exact ⟨_, rfl, by omega, by omega, hIm15, hFm15⟩
  · intro h27
    refine zw_push zr_165_63 ?_
    refine zw_42 zr_165_64 ?_
    refine zw_51 (c := 75) (len := 6) zr_165_81 rfl rfl (by omega) (by omega) ?_
    intro m28 em28
    have hIm28 : zInv m28 := by rw [em28]; exact hIm7.anyl (by omega) (zK3 rfl) rfl (by decide) (by decide)
    have hFm28 : zFr W_165 m0 m28 := by rw [em28]; exact hFm7.any rfl
    clear em28
    refine zw_7 zr_165_82 rfl ?_
    refine zw_46r (s := 75) zr_165_83 rfl rfl rfl rfl ?_
    refine zw_push zr_165_86 ?_
    refine zw_7 zr_165_87 rfl ?_
    refine zw_3 zr_165_88 rfl ?_
    refine zw_push zr_165_89 ?_
    refine zw_C zr_165_90 (Or.inl rfl) zm_144 rfl rfl ⟨Nat.le_of_ble_eq_true rfl, Nat.le_of_ble_eq_true rfl, Nat.le_of_ble_eq_true rfl, rfl, by decide⟩ (by omega) (P := (fun v m' => zW E (d) 165 93 [(2, 69), (0, a0), (0, a1), (0, a2), (0, a3)] (if v.1 = 9 then [(0, 5), (2, 75)] else v :: [(0, 5), (2, 75)]) m' Q)) ?_ (fun _ _ h => h)
    generalize hQ1 : (fun v m' => zW E (d) 165 93 [(2, 69), (0, a0), (0, a1), (0, a2), (0, a3)] (if v.1 = 9 then [(0, 5), (2, 75)] else v :: [(0, 5), (2, 75)]) m' Q) = Q1
    show zW E (d - 1) 144 0 [(2, 69), (0, a0), (0, 4)] [] m28 Q1
    refine zw_7 zr_144_0 rfl ?_
    refine zw_46r (s := 70) zr_144_1 rfl rfl rfl rfl ?_
    refine zw_push zr_144_4 ?_
    refine zw_push zr_144_6 ?_
    refine zw_3 zr_144_8 rfl ?_
    refine zw_18 zr_144_9 (by omega) ?_
    refine zw_16 zr_144_10 (by omega) ?_
    refine zw_3 zr_144_11 rfl ?_
    refine zw_16 zr_144_12 (by omega) ?_
    refine zw_48 (c := 70) (len := 826) zr_144_13 rfl rfl (by omega) (by omega) ?_
    intro x29 ex29
    have bx29 := ib_70_m4 hIm28 (k := (((90 + (6 * a0)) + 4)).toNat) (by omega)
    rw [← ex29] at bx29
    clear ex29
    refine zw_R zr_144_14 (by decide) zm_144 (v := (0, x29)) rfl ?_
    rw [← hQ1]
    show zW E (d) 165 93 [(2, 69), (0, a0), (0, a1), (0, a2), (0, a3)] [(0, x29), (0, 5), (2, 75)] m28 Q
    refine zw_36 zr_165_93 ?_
    refine zw_51 (c := 75) (len := 6) zr_165_94 rfl rfl (by omega) (by omega) ?_
    intro m30 em30
    have hIm30 : zInv m30 := by rw [em30]; exact hIm28.anyl (by omega) (zK3 rfl) rfl (by decide) (by decide)
    have hFm30 : zFr W_165 m0 m30 := by rw [em30]; exact hFm28.any rfl
    clear em30
    refine zw_7 zr_165_95 rfl ?_
    refine zw_C zr_165_96 (Or.inl rfl) zm_161 rfl rfl ⟨Nat.le_of_ble_eq_true rfl, Nat.le_of_ble_eq_true rfl, Nat.le_of_ble_eq_true rfl, rfl, by decide⟩ (by omega) (th_161 (d := d - 1) (by omega) hIm30    (F74 := m30 74)  rfl  ) ?_
    rintro _ m31 ⟨r32, rfl, hr32a, hr32b, hIm31, gm31⟩
    have hFm31 : zFr W_165 m0 m31 := hFm30.trans gm31 rfl
    show zW E (d) 165 99 [(2, 69), (0, a0), (0, a1), (0, a2), (0, a3)] [(0, r32)] m31 Q
    refine zw_40_4 zr_165_99 ?_ ?_
    · intro h33
      refine zw_7 zr_165_104 rfl ?_
      obtain ⟨f34, ef34⟩ : ∃ v, m31 69 13 = v := ⟨_, rfl⟩
      have bf34 := hIm31.fl (c := 69) (k := 13) rfl
      rw [ef34] at bf34
      refine zw_46l zr_165_105 ef34 rfl rfl rfl ?_
      refine zw_push zr_165_108 ?_
      refine zw_39_3 zr_165_111 zr_165_112 ?_ ?_
      · intro h35
        refine zw_7 zr_165_121 rfl ?_
        refine zw_46l zr_165_122 ef34 rfl rfl rfl ?_
        refine zw_push zr_165_125 ?_
        refine zw_39_5 zr_165_128 zr_165_129 ?_ ?_
        · intro h36
          refine zw_7 zr_165_138 rfl ?_
          refine zw_46l zr_165_139 ef34 rfl rfl rfl ?_
          refine zw_37h zr_165_142 ?_
          intro x37 hx37a hx37b
          refine zw_R zr_165_143 (by decide) zm_165 (v := (0, x37)) rfl ?_
          rw [← hQ]; exact ⟨_, rfl, by omega, by omega, hIm31, hFm31⟩
        · intro h38
          refine zw_push zr_165_132 ?_
          refine zw_42 zr_165_135 ?_
          refine zw_37h zr_165_142 ?_
          intro x39 hx39a hx39b
          refine zw_R zr_165_143 (by decide) zm_165 (v := (0, x39)) rfl ?_
          rw [← hQ]; exact ⟨_, rfl, by omega, by omega, hIm31, hFm31⟩
      · intro h40
        refine zw_push zr_165_115 ?_
        refine zw_42 zr_165_118 ?_
        refine zw_37h zr_165_142 ?_
        intro x41 hx41a hx41b
        refine zw_R zr_165_143 (by decide) zm_165 (v := (0, x41)) rfl ?_
        rw [← hQ]; exact ⟨_, rfl, by omega, by omega, hIm31, hFm31⟩
    · intro h42
      refine zw_push zr_165_102 ?_
      refine zw_R zr_165_103 (by decide) zm_165 (v := (0, 0)) rfl ?_
      rw [← hQ]; exact ⟨_, rfl, by omega, by omega, hIm31, hFm31⟩

abbrev W_166 : List (Nat × Nat) := [(69, 5), (69, 6), (69, 7), (69, 9), (69, 11), (69, 13), (69, 17), (69, 18), (73, 1000), (74, 1000), (75, 1000), (76, 1000), (77, 1000), (78, 1000)]
set_option maxHeartbeats 8000000 in
theorem th_166 {E : zE} {d : Nat} {m0 : zM} {a0 : Int} {a1 : Int} (hd : 5 ≤ d) (hI0 : zInv m0) (ha0 : 0 ≤ a0 ∧ a0 ≤ 3) (ha1 : 0 ≤ a1 ∧ a1 ≤ 59) : zC E d 166 [(2, 69), (0, a0), (0, a1)] m0 (fun v m' => v = (9, 0) ∧ zInv m' ∧ zFr W_166 m0 m') := by
  have hF0 : zFr W_166 m0 m0 := zFr.rfl
  generalize hQ : (fun (v : zV) (m' : zM) => v = (9, 0) ∧ zInv m' ∧ zFr W_166 m0 m') = Q
  show zW E d 166 0 [(2, 69), (0, a0), (0, a1), (9, 0), (9, 0)] [] m0 Q
  refine zw_7 zr_166_0 rfl ?_
  refine zw_3 zr_166_1 rfl ?_
  refine zw_47 (c := 69) zr_166_2 rfl ⟨rfl, by decide, rfl⟩ ?_
  intro m1 em1
  have hIm1 : zInv m1 := by rw [em1]; exact hI0.bd (r := 69) (k := 5) (lo := 0) (hi := 3) rfl (by omega) (by decide) (by decide) (by decide)
  have hFm1 : zFr W_166 m0 m1 := by rw [em1]; exact hF0.up rfl
  have km1_69_5 : m1 69 5 = a0 := by rw [em1]; exact zUp_eq _ _ _ _
  clear em1
  refine zw_7 zr_166_5 rfl ?_
  refine zw_3 zr_166_6 rfl ?_
  refine zw_push zr_166_7 ?_
  refine zw_C zr_166_8 (Or.inl rfl) zm_144 rfl rfl ⟨Nat.le_of_ble_eq_true rfl, Nat.le_of_ble_eq_true rfl, Nat.le_of_ble_eq_true rfl, rfl, by decide⟩ (by omega) (P := (fun v m' => zW E (d) 166 11 [(2, 69), (0, a0), (0, a1), (9, 0), (9, 0)] (if v.1 = 9 then [] else v :: []) m' Q)) ?_ (fun _ _ h => h)
  generalize hQ1 : (fun v m' => zW E (d) 166 11 [(2, 69), (0, a0), (0, a1), (9, 0), (9, 0)] (if v.1 = 9 then [] else v :: []) m' Q) = Q1
  show zW E (d - 1) 144 0 [(2, 69), (0, a1), (0, 1)] [] m1 Q1
  refine zw_7 zr_144_0 rfl ?_
  refine zw_46r (s := 70) zr_144_1 rfl rfl rfl rfl ?_
  refine zw_push zr_144_4 ?_
  refine zw_push zr_144_6 ?_
  refine zw_3 zr_144_8 rfl ?_
  refine zw_18 zr_144_9 (by omega) ?_
  refine zw_16 zr_144_10 (by omega) ?_
  refine zw_3 zr_144_11 rfl ?_
  refine zw_16 zr_144_12 (by omega) ?_
  refine zw_48 (c := 70) (len := 826) zr_144_13 rfl rfl (by omega) (by omega) ?_
  intro x2 ex2
  have bx2 := ib_70_m1 hIm1 (k := (((90 + (6 * a1)) + 1)).toNat) (by omega)
  rw [← ex2] at bx2
  clear ex2
  refine zw_R zr_144_14 (by decide) zm_144 (v := (0, x2)) rfl ?_
  rw [← hQ1]
  show zW E (d) 166 11 [(2, 69), (0, a0), (0, a1), (9, 0), (9, 0)] [(0, x2)] m1 Q
  refine zw_9 (L' := [(2, 69), (0, a0), (0, a1), (0, x2), (9, 0)]) zr_166_11 (Nat.le_of_ble_eq_true rfl) rfl ?_
  refine zw_7 zr_166_12 rfl ?_
  refine zw_3 zr_166_13 rfl ?_
  refine zw_push zr_166_14 ?_
  refine zw_C zr_166_15 (Or.inl rfl) zm_144 rfl rfl ⟨Nat.le_of_ble_eq_true rfl, Nat.le_of_ble_eq_true rfl, Nat.le_of_ble_eq_true rfl, rfl, by decide⟩ (by omega) (P := (fun v m' => zW E (d) 166 18 [(2, 69), (0, a0), (0, a1), (0, x2), (9, 0)] (if v.1 = 9 then [] else v :: []) m' Q)) ?_ (fun _ _ h => h)
  generalize hQ1 : (fun v m' => zW E (d) 166 18 [(2, 69), (0, a0), (0, a1), (0, x2), (9, 0)] (if v.1 = 9 then [] else v :: []) m' Q) = Q1
  show zW E (d - 1) 144 0 [(2, 69), (0, a1), (0, 2)] [] m1 Q1
  refine zw_7 zr_144_0 rfl ?_
  refine zw_46r (s := 70) zr_144_1 rfl rfl rfl rfl ?_
  refine zw_push zr_144_4 ?_
  refine zw_push zr_144_6 ?_
  refine zw_3 zr_144_8 rfl ?_
  refine zw_18 zr_144_9 (by omega) ?_
  refine zw_16 zr_144_10 (by omega) ?_
  refine zw_3 zr_144_11 rfl ?_
  refine zw_16 zr_144_12 (by omega) ?_
  refine zw_48 (c := 70) (len := 826) zr_144_13 rfl rfl (by omega) (by omega) ?_
  intro x3 ex3
  have bx3 := ib_70_m2 hIm1 (k := (((90 + (6 * a1)) + 2)).toNat) (by omega)
  rw [← ex3] at bx3
  clear ex3
  refine zw_R zr_144_14 (by decide) zm_144 (v := (0, x3)) rfl ?_
  rw [← hQ1]
  show zW E (d) 166 18 [(2, 69), (0, a0), (0, a1), (0, x2), (9, 0)] [(0, x3)] m1 Q
  refine zw_10 (L' := [(2, 69), (0, a0), (0, a1), (0, x2), (0, x3)]) zr_166_18 (Nat.le_of_ble_eq_true rfl) rfl ?_
  refine zw_7 zr_166_20 rfl ?_
  refine zw_7 zr_166_21 rfl ?_
  refine zw_3 zr_166_22 rfl ?_
  refine zw_3 zr_166_23 rfl ?_
  refine zw_4 zr_166_24 rfl ?_
  refine zw_7 zr_166_26 rfl ?_
  refine zw_3 zr_166_27 rfl ?_
  refine zw_push zr_166_28 ?_
  refine zw_C zr_166_29 (Or.inl rfl) zm_144 rfl rfl ⟨Nat.le_of_ble_eq_true rfl, Nat.le_of_ble_eq_true rfl, Nat.le_of_ble_eq_true rfl, rfl, by decide⟩ (by omega) (P := (fun v m' => zW E (d) 166 32 [(2, 69), (0, a0), (0, a1), (0, x2), (0, x3)] (if v.1 = 9 then [(0, x3), (0, x2), (0, a1), (2, 69), (2, 69)] else v :: [(0, x3), (0, x2), (0, a1), (2, 69), (2, 69)]) m' Q)) ?_ (fun _ _ h => h)
  generalize hQ1 : (fun v m' => zW E (d) 166 32 [(2, 69), (0, a0), (0, a1), (0, x2), (0, x3)] (if v.1 = 9 then [(0, x3), (0, x2), (0, a1), (2, 69), (2, 69)] else v :: [(0, x3), (0, x2), (0, a1), (2, 69), (2, 69)]) m' Q) = Q1
  show zW E (d - 1) 144 0 [(2, 69), (0, a1), (0, 3)] [] m1 Q1
  refine zw_7 zr_144_0 rfl ?_
  refine zw_46r (s := 70) zr_144_1 rfl rfl rfl rfl ?_
  refine zw_push zr_144_4 ?_
  refine zw_push zr_144_6 ?_
  refine zw_3 zr_144_8 rfl ?_
  refine zw_18 zr_144_9 (by omega) ?_
  refine zw_16 zr_144_10 (by omega) ?_
  refine zw_3 zr_144_11 rfl ?_
  refine zw_16 zr_144_12 (by omega) ?_
  refine zw_48 (c := 70) (len := 826) zr_144_13 rfl rfl (by omega) (by omega) ?_
  intro x4 ex4
  have bx4 := ib_70_m3 hIm1 (k := (((90 + (6 * a1)) + 3)).toNat) (by omega)
  rw [← ex4] at bx4
  clear ex4
  refine zw_R zr_144_14 (by decide) zm_144 (v := (0, x4)) rfl ?_
  rw [← hQ1]
  show zW E (d) 166 32 [(2, 69), (0, a0), (0, a1), (0, x2), (0, x3)] [(0, x4), (0, x3), (0, x2), (0, a1), (2, 69), (2, 69)] m1 Q
  refine zw_C zr_166_32 (Or.inl rfl) zm_165 rfl rfl ⟨Nat.le_of_ble_eq_true rfl, Nat.le_of_ble_eq_true rfl, Nat.le_of_ble_eq_true rfl, rfl, by decide⟩ (by omega) (th_165 (d := d - 1) (by omega) hIm1 (a0 := a1) (a1 := x2) (a2 := x3) (a3 := x4)      (by omega) (by omega) (by omega) (by omega) ) ?_
  rintro _ m5 ⟨r6, rfl, hr6a, hr6b, hIm5, gm5⟩
  have hFm5 : zFr W_166 m0 m5 := hFm1.trans gm5 rfl
  have km5_69_5 : m5 69 5 = a0 := (gm5 69 5 rfl).trans km1_69_5
  show zW E (d) 166 35 [(2, 69), (0, a0), (0, a1), (0, x2), (0, x3)] [(0, r6), (2, 69)] m5 Q
  refine zw_47 (c := 69) zr_166_35 rfl ⟨rfl, by decide, rfl⟩ ?_
  intro m7 em7
  have hIm7 : zInv m7 := by rw [em7]; exact hIm5.any (by omega) rfl (by decide) (by decide)
  have hFm7 : zFr W_166 m0 m7 := by rw [em7]; exact hFm5.up rfl
  have km7_69_5 : m7 69 5 = a0 := by rw [em7, zUp_ne (by omega)]; exact km5_69_5
  have km7_69_17 : m7 69 17 = r6 := by rw [em7]; exact zUp_eq _ _ _ _
  clear em7
  refine zw_7 zr_166_38 rfl ?_
  refine zw_7 zr_166_39 rfl ?_
  refine zw_3 zr_166_40 rfl ?_
  refine zw_4 zr_166_41 rfl ?_
  refine zw_3 zr_166_43 rfl ?_
  refine zw_push zr_166_44 ?_
  refine zw_7 zr_166_45 rfl ?_
  refine zw_3 zr_166_46 rfl ?_
  refine zw_push zr_166_47 ?_
  refine zw_C zr_166_48 (Or.inl rfl) zm_144 rfl rfl ⟨Nat.le_of_ble_eq_true rfl, Nat.le_of_ble_eq_true rfl, Nat.le_of_ble_eq_true rfl, rfl, by decide⟩ (by omega) (P := (fun v m' => zW E (d) 166 51 [(2, 69), (0, a0), (0, a1), (0, x2), (0, x3)] (if v.1 = 9 then [(0, 2), (0, x2), (0, x3), (0, a1), (2, 69), (2, 69)] else v :: [(0, 2), (0, x2), (0, x3), (0, a1), (2, 69), (2, 69)]) m' Q)) ?_ (fun _ _ h => h)
  generalize hQ1 : (fun v m' => zW E (d) 166 51 [(2, 69), (0, a0), (0, a1), (0, x2), (0, x3)] (if v.1 = 9 then [(0, 2), (0, x2), (0, x3), (0, a1), (2, 69), (2, 69)] else v :: [(0, 2), (0, x2), (0, x3), (0, a1), (2, 69), (2, 69)]) m' Q) = Q1
  show zW E (d - 1) 144 0 [(2, 69), (0, a1), (0, 3)] [] m7 Q1
  refine zw_7 zr_144_0 rfl ?_
  refine zw_46r (s := 70) zr_144_1 rfl rfl rfl rfl ?_
  refine zw_push zr_144_4 ?_
  refine zw_push zr_144_6 ?_
  refine zw_3 zr_144_8 rfl ?_
  refine zw_18 zr_144_9 (by omega) ?_
  refine zw_16 zr_144_10 (by omega) ?_
  refine zw_3 zr_144_11 rfl ?_
  refine zw_16 zr_144_12 (by omega) ?_
  refine zw_48 (c := 70) (len := 826) zr_144_13 rfl rfl (by omega) (by omega) ?_
  intro x8 ex8
  have bx8 := ib_70_m3 hIm7 (k := (((90 + (6 * a1)) + 3)).toNat) (by omega)
  rw [← ex8] at bx8
  clear ex8
  refine zw_R zr_144_14 (by decide) zm_144 (v := (0, x8)) rfl ?_
  rw [← hQ1]
  show zW E (d) 166 51 [(2, 69), (0, a0), (0, a1), (0, x2), (0, x3)] [(0, x8), (0, 2), (0, x2), (0, x3), (0, a1), (2, 69), (2, 69)] m7 Q
  refine zw_17 zr_166_51 (by omega) ?_
  refine zw_C zr_166_52 (Or.inl rfl) zm_165 rfl rfl ⟨Nat.le_of_ble_eq_true rfl, Nat.le_of_ble_eq_true rfl, Nat.le_of_ble_eq_true rfl, rfl, by decide⟩ (by omega) (th_165 (d := d - 1) (by omega) hIm7 (a0 := a1) (a1 := x3) (a2 := x2) (a3 := (2 - x8))      (by omega) (by omega) (by omega) (by omega) ) ?_
  rintro _ m9 ⟨r10, rfl, hr10a, hr10b, hIm9, gm9⟩
  have hFm9 : zFr W_166 m0 m9 := hFm7.trans gm9 rfl
  have km9_69_5 : m9 69 5 = a0 := (gm9 69 5 rfl).trans km7_69_5
  have km9_69_17 : m9 69 17 = r6 := (gm9 69 17 rfl).trans km7_69_17
  show zW E (d) 166 55 [(2, 69), (0, a0), (0, a1), (0, x2), (0, x3)] [(0, r10), (2, 69)] m9 Q
  refine zw_47 (c := 69) zr_166_55 rfl ⟨rfl, by decide, rfl⟩ ?_
  intro m11 em11
  have hIm11 : zInv m11 := by rw [em11]; exact hIm9.any (by omega) rfl (by decide) (by decide)
  have hFm11 : zFr W_166 m0 m11 := by rw [em11]; exact hFm9.up rfl
  have km11_69_5 : m11 69 5 = a0 := by rw [em11, zUp_ne (by omega)]; exact km9_69_5
  have km11_69_17 : m11 69 17 = r6 := by rw [em11, zUp_ne (by omega)]; exact km9_69_17
  have km11_69_18 : m11 69 18 = r10 := by rw [em11]; exact zUp_eq _ _ _ _
  clear em11
  refine zw_7 zr_166_58 rfl ?_
  refine zw_46r (s := 76) zr_166_59 rfl rfl rfl rfl ?_
  refine zw_3 zr_166_62 rfl ?_
  refine zw_45 zr_166_63 ⟨rfl, rfl⟩ ?_
  refine zw_48 (c := 76) (len := 10) zr_166_64 rfl rfl (by omega) (by omega) ?_
  intro x12 ex12
  have bx12 := hIm11.ra (c := 76) (len := 10) (k := (x2).toNat) rfl (by omega)
  rw [← ex12] at bx12
  clear ex12
  refine zw_7 zr_166_65 rfl ?_
  refine zw_46i zr_166_66 km11_69_17 rfl rfl rfl ?_
  refine zw_16h zr_166_69 ?_
  intro x13 hx13a hx13b
  refine zw_49 (c := 76) (len := 10) zr_166_70 rfl rfl (by omega) (by omega) ?_
  intro m14 em14
  have hIm14 : zInv m14 := by rw [em14]; exact hIm11.any (by omega) rfl (by decide) (by decide)
  have hFm14 : zFr W_166 m0 m14 := by rw [em14]; exact hFm11.any rfl
  have km14_69_5 : m14 69 5 = a0 := by rw [em14, zUp_ne (by omega)]; exact km11_69_5
  have km14_69_17 : m14 69 17 = r6 := by rw [em14, zUp_ne (by omega)]; exact km11_69_17
  have km14_69_18 : m14 69 18 = r10 := by rw [em14, zUp_ne (by omega)]; exact km11_69_18
  clear em14
  refine zw_7 zr_166_71 rfl ?_
  refine zw_46r (s := 76) zr_166_72 rfl rfl rfl rfl ?_
  refine zw_4 zr_166_75 rfl ?_
  refine zw_45 zr_166_77 ⟨rfl, rfl⟩ ?_
  refine zw_48 (c := 76) (len := 10) zr_166_78 rfl rfl (by omega) (by omega) ?_
  intro x15 ex15
  have bx15 := hIm14.ra (c := 76) (len := 10) (k := (x3).toNat) rfl (by omega)
  rw [← ex15] at bx15
  clear ex15
  refine zw_7 zr_166_79 rfl ?_
  refine zw_46i zr_166_80 km14_69_18 rfl rfl rfl ?_
  refine zw_16h zr_166_83 ?_
  intro x16 hx16a hx16b
  refine zw_49 (c := 76) (len := 10) zr_166_84 rfl rfl (by omega) (by omega) ?_
  intro m17 em17
  have hIm17 : zInv m17 := by rw [em17]; exact hIm14.any (by omega) rfl (by decide) (by decide)
  have hFm17 : zFr W_166 m0 m17 := by rw [em17]; exact hFm14.any rfl
  have km17_69_5 : m17 69 5 = a0 := by rw [em17, zUp_ne (by omega)]; exact km14_69_5
  have km17_69_17 : m17 69 17 = r6 := by rw [em17, zUp_ne (by omega)]; exact km14_69_17
  have km17_69_18 : m17 69 18 = r10 := by rw [em17, zUp_ne (by omega)]; exact km14_69_18
  clear em17
  refine zw_7 zr_166_85 rfl ?_
  refine zw_46r (s := 77) zr_166_86 rfl rfl rfl rfl ?_
  refine zw_3 zr_166_89 rfl ?_
  refine zw_45 zr_166_90 ⟨rfl, rfl⟩ ?_
  refine zw_48 (c := 77) (len := 10) zr_166_91 rfl rfl (by omega) (by omega) ?_
  intro x18 ex18
  have bx18 := hIm17.ra (c := 77) (len := 10) (k := (x2).toNat) rfl (by omega)
  rw [← ex18] at bx18
  clear ex18
  refine zw_push zr_166_92 ?_
  refine zw_16h zr_166_93 ?_
  intro x19 hx19a hx19b
  refine zw_49 (c := 77) (len := 10) zr_166_94 rfl rfl (by omega) (by omega) ?_
  intro m20 em20
  have hIm20 : zInv m20 := by rw [em20]; exact hIm17.any (by omega) rfl (by decide) (by decide)
  have hFm20 : zFr W_166 m0 m20 := by rw [em20]; exact hFm17.any rfl
  have km20_69_5 : m20 69 5 = a0 := by rw [em20, zUp_ne (by omega)]; exact km17_69_5
  have km20_69_17 : m20 69 17 = r6 := by rw [em20, zUp_ne (by omega)]; exact km17_69_17
  have km20_69_18 : m20 69 18 = r10 := by rw [em20, zUp_ne (by omega)]; exact km17_69_18
  clear em20
  refine zw_7 zr_166_95 rfl ?_
  refine zw_46r (s := 77) zr_166_96 rfl rfl rfl rfl ?_
  refine zw_4 zr_166_99 rfl ?_
  refine zw_45 zr_166_101 ⟨rfl, rfl⟩ ?_
  refine zw_48 (c := 77) (len := 10) zr_166_102 rfl rfl (by omega) (by omega) ?_
  intro x21 ex21
  have bx21 := hIm20.ra (c := 77) (len := 10) (k := (x3).toNat) rfl (by omega)
  rw [← ex21] at bx21
  clear ex21
  refine zw_push zr_166_103 ?_
  refine zw_16h zr_166_104 ?_
  intro x22 hx22a hx22b
  refine zw_49 (c := 77) (len := 10) zr_166_105 rfl rfl (by omega) (by omega) ?_
  intro m23 em23
  have hIm23 : zInv m23 := by rw [em23]; exact hIm20.any (by omega) rfl (by decide) (by decide)
  have hFm23 : zFr W_166 m0 m23 := by rw [em23]; exact hFm20.any rfl
  have km23_69_5 : m23 69 5 = a0 := by rw [em23, zUp_ne (by omega)]; exact km20_69_5
  have km23_69_17 : m23 69 17 = r6 := by rw [em23, zUp_ne (by omega)]; exact km20_69_17
  have km23_69_18 : m23 69 18 = r10 := by rw [em23, zUp_ne (by omega)]; exact km20_69_18
  clear em23
  refine zw_7 zr_166_106 rfl ?_
  refine zw_46r (s := 78) zr_166_107 rfl rfl rfl rfl ?_
  refine zw_3 zr_166_110 rfl ?_
  refine zw_7 zr_166_111 rfl ?_
  refine zw_3 zr_166_112 rfl ?_
  refine zw_push zr_166_113 ?_
  refine zw_C zr_166_114 (Or.inl rfl) zm_144 rfl rfl ⟨Nat.le_of_ble_eq_true rfl, Nat.le_of_ble_eq_true rfl, Nat.le_of_ble_eq_true rfl, rfl, by decide⟩ (by omega) (P := (fun v m' => zW E (d) 166 117 [(2, 69), (0, a0), (0, a1), (0, x2), (0, x3)] (if v.1 = 9 then [(0, x2), (2, 78)] else v :: [(0, x2), (2, 78)]) m' Q)) ?_ (fun _ _ h => h)
  generalize hQ1 : (fun v m' => zW E (d) 166 117 [(2, 69), (0, a0), (0, a1), (0, x2), (0, x3)] (if v.1 = 9 then [(0, x2), (2, 78)] else v :: [(0, x2), (2, 78)]) m' Q) = Q1
  show zW E (d - 1) 144 0 [(2, 69), (0, a1), (0, 0)] [] m23 Q1
  refine zw_7 zr_144_0 rfl ?_
  refine zw_46r (s := 70) zr_144_1 rfl rfl rfl rfl ?_
  refine zw_push zr_144_4 ?_
  refine zw_push zr_144_6 ?_
  refine zw_3 zr_144_8 rfl ?_
  refine zw_18 zr_144_9 (by omega) ?_
  refine zw_16 zr_144_10 (by omega) ?_
  refine zw_3 zr_144_11 rfl ?_
  refine zw_16 zr_144_12 (by omega) ?_
  refine zw_48 (c := 70) (len := 826) zr_144_13 rfl rfl (by omega) (by omega) ?_
  intro x24 ex24
  have bx24 := ib_70_m0 hIm23 (k := (((90 + (6 * a1)) + 0)).toNat) (by omega)
  rw [← ex24] at bx24
  clear ex24
  refine zw_R zr_144_14 (by decide) zm_144 (v := (0, x24)) rfl ?_
  rw [← hQ1]
  show zW E (d) 166 117 [(2, 69), (0, a0), (0, a1), (0, x2), (0, x3)] [(0, x24), (0, x2), (2, 78)] m23 Q
  refine zw_49 (c := 78) (len := 10) zr_166_117 rfl rfl (by omega) (by omega) ?_
  intro m25 em25
  have hIm25 : zInv m25 := by rw [em25]; exact hIm23.any (by omega) rfl (by decide) (by decide)
  have hFm25 : zFr W_166 m0 m25 := by rw [em25]; exact hFm23.any rfl
  have km25_69_5 : m25 69 5 = a0 := by rw [em25, zUp_ne (by omega)]; exact km23_69_5
  have km25_69_17 : m25 69 17 = r6 := by rw [em25, zUp_ne (by omega)]; exact km23_69_17
  have km25_69_18 : m25 69 18 = r10 := by rw [em25, zUp_ne (by omega)]; exact km23_69_18
  clear em25
  refine zw_7 zr_166_118 rfl ?_
  refine zw_46r (s := 78) zr_166_119 rfl rfl rfl rfl ?_
  refine zw_4 zr_166_122 rfl ?_
  refine zw_7 zr_166_124 rfl ?_
  refine zw_3 zr_166_125 rfl ?_
  refine zw_push zr_166_126 ?_
  refine zw_C zr_166_127 (Or.inl rfl) zm_144 rfl rfl ⟨Nat.le_of_ble_eq_true rfl, Nat.le_of_ble_eq_true rfl, Nat.le_of_ble_eq_true rfl, rfl, by decide⟩ (by omega) (P := (fun v m' => zW E (d) 166 130 [(2, 69), (0, a0), (0, a1), (0, x2), (0, x3)] (if v.1 = 9 then [(0, x3), (2, 78)] else v :: [(0, x3), (2, 78)]) m' Q)) ?_ (fun _ _ h => h)
  generalize hQ1 : (fun v m' => zW E (d) 166 130 [(2, 69), (0, a0), (0, a1), (0, x2), (0, x3)] (if v.1 = 9 then [(0, x3), (2, 78)] else v :: [(0, x3), (2, 78)]) m' Q) = Q1
  show zW E (d - 1) 144 0 [(2, 69), (0, a1), (0, 0)] [] m25 Q1
  refine zw_7 zr_144_0 rfl ?_
  refine zw_46r (s := 70) zr_144_1 rfl rfl rfl rfl ?_
  refine zw_push zr_144_4 ?_
  refine zw_push zr_144_6 ?_
  refine zw_3 zr_144_8 rfl ?_
  refine zw_18 zr_144_9 (by omega) ?_
  refine zw_16 zr_144_10 (by omega) ?_
  refine zw_3 zr_144_11 rfl ?_
  refine zw_16 zr_144_12 (by omega) ?_
  refine zw_48 (c := 70) (len := 826) zr_144_13 rfl rfl (by omega) (by omega) ?_
  intro x26 ex26
  have bx26 := ib_70_m0 hIm25 (k := (((90 + (6 * a1)) + 0)).toNat) (by omega)
  rw [← ex26] at bx26
  clear ex26
  refine zw_R zr_144_14 (by decide) zm_144 (v := (0, x26)) rfl ?_
  rw [← hQ1]
  show zW E (d) 166 130 [(2, 69), (0, a0), (0, a1), (0, x2), (0, x3)] [(0, x26), (0, x3), (2, 78)] m25 Q
  refine zw_49 (c := 78) (len := 10) zr_166_130 rfl rfl (by omega) (by omega) ?_
  intro m27 em27
  have hIm27 : zInv m27 := by rw [em27]; exact hIm25.any (by omega) rfl (by decide) (by decide)
  have hFm27 : zFr W_166 m0 m27 := by rw [em27]; exact hFm25.any rfl
  have km27_69_5 : m27 69 5 = a0 := by rw [em27, zUp_ne (by omega)]; exact km25_69_5
  have km27_69_17 : m27 69 17 = r6 := by rw [em27, zUp_ne (by omega)]; exact km25_69_17
  have km27_69_18 : m27 69 18 = r10 := by rw [em27, zUp_ne (by omega)]; exact km25_69_18
  clear em27
  refine zw_R zr_166_131 (by decide) zm_166 (v := (9, 0)) rfl ?_
  rw [← hQ]; exact ⟨rfl, hIm27, hFm27⟩
