set_option maxHeartbeats 8000000 in
theorem th_69 {E : zE} {d : Nat} {m0 : zM} (hd : 1 ≤ d) (hI0 : zInv m0) : zC E d 69 [(2, 60)] m0 (fun v m' => ∃ r : Int, v = (0, r) ∧ (-1) ≤ r ∧ r ≤ 9 ∧ m' = m0) := by
  generalize hQ : (fun (v : zV) (m' : zM) => ∃ r : Int, v = (0, r) ∧ (-1) ≤ r ∧ r ≤ 9 ∧ m' = m0) = Q
  show zW E d 69 0 [(2, 60), (9, 0)] [] m0 Q
  refine zw_push zr_69_0 ?_
  refine zw_9 (L' := [(2, 60), (0, 0)]) zr_69_1 (Nat.le_of_ble_eq_true rfl) rfl ?_
  have lp2_2 : ∀ (nlp2_2 : Nat) (i1 : Int), 0 ≤ i1 → i1 ≤ 10 → (10 - i1).toNat < nlp2_2 → zW E (d) 69 2 [(2, 60), (0, i1)] [] m0 Q := by
    intro nlp2_2
    induction nlp2_2 with
    | zero =>
      intros
      exact absurd (by assumption : _ < 0) (Nat.not_lt_zero _)
    | succ nlp2_2 ihlp2_2 =>
      intro i1 li1 ui1 hmlp2_2
      refine zw_3 zr_69_2 rfl ?_
      refine zw_7 zr_69_3 rfl ?_
      refine zw_46r (s := 1) zr_69_4 rfl rfl rfl rfl ?_
      obtain ⟨f4, ef4⟩ : ∃ v, m0 1 0 = v := ⟨_, rfl⟩
      have bf4 := ib_1_0 hI0
      rw [ef4] at bf4
      refine zw_46i zr_69_7 ef4 rfl rfl rfl ?_
      refine zw_41_3 zr_69_10 ?_ ?_
      · intro h5
        refine zw_push zr_69_31 ?_
        refine zw_R zr_69_32 (by decide) zm_69 (v := (0, (-1))) rfl ?_
        rw [← hQ]; exact ⟨_, rfl, by omega, by omega, rfl⟩
      · intro h6
        refine zw_7 zr_69_13 rfl ?_
        refine zw_46r (s := 62) zr_69_14 rfl rfl rfl rfl ?_
        refine zw_3 zr_69_17 rfl ?_
        refine zw_48 (c := 62) (len := 10) zr_69_18 rfl rfl (by omega) (by omega) ?_
        intro x7 ex7
        have bx7 := hI0.ra (c := 62) (len := 10) (k := (i1).toNat) rfl (by omega)
        rw [← ex7] at bx7
        clear ex7
        refine zw_push zr_69_19 ?_
        refine zw_41_1 zr_69_20 ?_ ?_
        · intro h8
          refine zw_15 (c := 1) (L' := [(2, 60), (0, (i1 + 1))]) zr_69_25 rfl (by decide) (by omega) rfl ?_
          refine zw_42 zr_69_28 ?_
          exact zw_less (L := [(2, 60), (0, (i1 + 1))]) ⟨Or.inr rfl, Or.inr rfl, trivial⟩ (ihlp2_2 ((i1 + 1))  (by omega) (by omega) (by omega))
        · intro h9
          refine zw_3 zr_69_23 rfl ?_
          refine zw_R zr_69_24 (by decide) zm_69 (v := (0, i1)) rfl ?_
          rw [← hQ]; exact ⟨_, rfl, by omega, by omega, rfl⟩
  exact lp2_2 _ (0)  (by omega) (by omega) (Nat.lt_succ_self _)

abbrev W_71 : List (Nat × Nat) := [(61, 1000), (62, 1000)]
set_option maxHeartbeats 8000000 in
theorem th_71 {E : zE} {d : Nat} {m0 : zM} {a0 : Int} (hd : 3 ≤ d) (hI0 : zInv m0) (ha0 : 0 ≤ a0 ∧ a0 ≤ 9) : zC E d 71 [(2, 60), (0, a0)] m0 (fun v m' => ∃ r : Int, v = (0, r) ∧ (-1) ≤ r ∧ r ≤ 9 ∧ zInv m' ∧ zFr W_71 m0 m') := by
  have hF0 : zFr W_71 m0 m0 := zFr.rfl
  generalize hQ : (fun (v : zV) (m' : zM) => ∃ r : Int, v = (0, r) ∧ (-1) ≤ r ∧ r ≤ 9 ∧ zInv m' ∧ zFr W_71 m0 m') = Q
  show zW E d 71 0 [(2, 60), (0, a0)] [] m0 Q
  refine zw_7 zr_71_0 rfl ?_
  refine zw_7 zr_71_1 rfl ?_
  refine zw_46r (s := 1) zr_71_2 rfl rfl rfl rfl ?_
  refine zw_C zr_71_5 (Or.inl rfl) zm_53 rfl rfl ⟨Nat.le_of_ble_eq_true rfl, Nat.le_of_ble_eq_true rfl, Nat.le_of_ble_eq_true rfl, rfl, by decide⟩ (by omega) (th_53 (d := d - 1) (by omega) hI0    ) ?_
  rintro _ _ ⟨r1, rfl, hr1a, hr1b, rfl⟩
  show zW E (d) 71 8 [(2, 60), (0, a0)] [(1, r1), (2, 60)] m0 Q
  refine zw_C zr_71_8 (Or.inl rfl) zm_66 rfl rfl ⟨Nat.le_of_ble_eq_true rfl, Nat.le_of_ble_eq_true rfl, Nat.le_of_ble_eq_true rfl, rfl, by decide⟩ (by omega) (th_66 (d := d - 1) (by omega) hI0 (a0 := r1)   (by omega)) ?_
  rintro _ m2 ⟨rfl, hIm2, gm2⟩
  have hFm2 : zFr W_71 m0 m2 := hF0.trans gm2 rfl
  show zW E (d) 71 11 [(2, 60), (0, a0)] [] m2 Q
  refine zw_7 zr_71_11 rfl ?_
  refine zw_3 zr_71_12 rfl ?_
  refine zw_C zr_71_13 (Or.inl rfl) zm_67 rfl rfl ⟨Nat.le_of_ble_eq_true rfl, Nat.le_of_ble_eq_true rfl, Nat.le_of_ble_eq_true rfl, rfl, by decide⟩ (by omega) (th_67 (d := d - 1) (by omega) hIm2 (a0 := a0)   (by omega)) ?_
  rintro _ m3 ⟨rfl, hIm3, gm3⟩
  have hFm3 : zFr W_71 m0 m3 := hFm2.trans gm3 rfl
  show zW E (d) 71 16 [(2, 60), (0, a0)] [] m3 Q
  refine zw_7 zr_71_16 rfl ?_
  refine zw_C zr_71_17 (Or.inl rfl) zm_69 rfl rfl ⟨Nat.le_of_ble_eq_true rfl, Nat.le_of_ble_eq_true rfl, Nat.le_of_ble_eq_true rfl, rfl, by decide⟩ (by omega) (th_69 (d := d - 1) (by omega) hIm3    ) ?_
  rintro _ _ ⟨r4, rfl, hr4a, hr4b, rfl⟩
  show zW E (d) 71 20 [(2, 60), (0, a0)] [(0, r4)] m3 Q
  refine zw_R zr_71_20 (by decide) zm_71 (v := (0, r4)) rfl ?_
  rw [← hQ]; exact ⟨_, rfl, by omega, by omega, hIm3, hFm3⟩

abbrev W_70 : List (Nat × Nat) := [(61, 1000), (62, 1000)]
set_option maxHeartbeats 8000000 in
theorem th_70 {E : zE} {d : Nat} {m0 : zM} (hd : 3 ≤ d) (hI0 : zInv m0) : zC E d 70 [(2, 60)] m0 (fun v m' => ∃ r : Int, v = (0, r) ∧ (-2147483648) ≤ r ∧ r ≤ 2147483647 ∧ zInv m' ∧ zFr W_70 m0 m') := by
  have hF0 : zFr W_70 m0 m0 := zFr.rfl
  generalize hQ : (fun (v : zV) (m' : zM) => ∃ r : Int, v = (0, r) ∧ (-2147483648) ≤ r ∧ r ≤ 2147483647 ∧ zInv m' ∧ zFr W_70 m0 m') = Q
  show zW E d 70 0 [(2, 60), (9, 0), (9, 0)] [] m0 Q
  refine zw_push zr_70_0 ?_
  refine zw_9 (L' := [(2, 60), (0, 0), (9, 0)]) zr_70_1 (Nat.le_of_ble_eq_true rfl) rfl ?_
  refine zw_7 zr_70_2 rfl ?_
  refine zw_7 zr_70_3 rfl ?_
  refine zw_46r (s := 1) zr_70_4 rfl rfl rfl rfl ?_
  refine zw_C zr_70_7 (Or.inl rfl) zm_53 rfl rfl ⟨Nat.le_of_ble_eq_true rfl, Nat.le_of_ble_eq_true rfl, Nat.le_of_ble_eq_true rfl, rfl, by decide⟩ (by omega) (th_53 (d := d - 1) (by omega) hI0    ) ?_
  rintro _ _ ⟨r1, rfl, hr1a, hr1b, rfl⟩
  show zW E (d) 70 10 [(2, 60), (0, 0), (9, 0)] [(1, r1), (2, 60)] m0 Q
  refine zw_C zr_70_10 (Or.inl rfl) zm_66 rfl rfl ⟨Nat.le_of_ble_eq_true rfl, Nat.le_of_ble_eq_true rfl, Nat.le_of_ble_eq_true rfl, rfl, by decide⟩ (by omega) (th_66 (d := d - 1) (by omega) hI0 (a0 := r1)   (by omega)) ?_
  rintro _ m2 ⟨rfl, hIm2, gm2⟩
  have hFm2 : zFr W_70 m0 m2 := hF0.trans gm2 rfl
  show zW E (d) 70 13 [(2, 60), (0, 0), (9, 0)] [] m2 Q
  refine zw_push zr_70_13 ?_
  refine zw_9 (L' := [(2, 60), (0, 0), (0, 0)]) zr_70_14 (Nat.le_of_ble_eq_true rfl) rfl ?_
  have lp15_6 : ∀ (nlp15_6 : Nat) (i3 i4 : Int) (m5 : zM), zInv m5 → zFr W_70 m0 m5 → (-2147483648) ≤ i3 → i3 ≤ 2147483647 → 0 ≤ i4 → i4 ≤ 10 → (10 - i4).toNat < nlp15_6 → zW E (d) 70 15 [(2, 60), (0, i3), (0, i4)] [] m5 Q := by
    intro nlp15_6
    induction nlp15_6 with
    | zero =>
      intros
      exact absurd (by assumption : _ < 0) (Nat.not_lt_zero _)
    | succ nlp15_6 ihlp15_6 =>
      intro i3 i4 m5 hIm5 hFm5 li3 ui3 li4 ui4 hmlp15_6
      refine zw_3 zr_70_15 rfl ?_
      refine zw_7 zr_70_16 rfl ?_
      refine zw_46r (s := 1) zr_70_17 rfl rfl rfl rfl ?_
      obtain ⟨f8, ef8⟩ : ∃ v, m5 1 0 = v := ⟨_, rfl⟩
      have bf8 := ib_1_0 hIm5
      rw [ef8] at bf8
      refine zw_46i zr_70_20 ef8 rfl rfl rfl ?_
      refine zw_41_3 zr_70_23 ?_ ?_
      · intro h9
        refine zw_3 zr_70_48 rfl ?_
        refine zw_R zr_70_49 (by decide) zm_70 (v := (0, i3)) rfl ?_
        rw [← hQ]; exact ⟨_, rfl, by omega, by omega, hIm5, hFm5⟩
      · intro h10
        refine zw_7 zr_70_26 rfl ?_
        refine zw_3 zr_70_27 rfl ?_
        refine zw_C zr_70_28 (Or.inl rfl) zm_67 rfl rfl ⟨Nat.le_of_ble_eq_true rfl, Nat.le_of_ble_eq_true rfl, Nat.le_of_ble_eq_true rfl, rfl, by decide⟩ (by omega) (th_67 (d := d - 1) (by omega) hIm5 (a0 := i4)   (by omega)) ?_
        rintro _ m11 ⟨rfl, hIm11, gm11⟩
        have hFm11 : zFr W_70 m0 m11 := hFm5.trans gm11 rfl
        have km11_1_0 : m11 1 0 = f8 := (gm11 1 0 rfl).trans ef8
        show zW E (d) 70 31 [(2, 60), (0, i3), (0, i4)] [] m11 Q
        refine zw_7 zr_70_31 rfl ?_
        refine zw_C zr_70_32 (Or.inl rfl) zm_69 rfl rfl ⟨Nat.le_of_ble_eq_true rfl, Nat.le_of_ble_eq_true rfl, Nat.le_of_ble_eq_true rfl, rfl, by decide⟩ (by omega) (th_69 (d := d - 1) (by omega) hIm11    ) ?_
        rintro _ _ ⟨r12, rfl, hr12a, hr12b, rfl⟩
        show zW E (d) 70 35 [(2, 60), (0, i3), (0, i4)] [(0, r12)] m11 Q
        refine zw_3 zr_70_35 rfl ?_
        refine zw_41_4 zr_70_36 ?_ ?_
        · intro h13
          refine zw_15 (c := 1) (L' := [(2, 60), (0, i3), (0, (i4 + 1))]) zr_70_42 rfl (by decide) (by omega) rfl ?_
          refine zw_42 zr_70_45 ?_
          exact zw_less (L := [(2, 60), (0, i3), (0, (i4 + 1))]) ⟨Or.inr rfl, Or.inr rfl, Or.inr rfl, trivial⟩ (ihlp15_6 (i3) ((i4 + 1)) m11 hIm11 hFm11   (by omega) (by omega) (by omega) (by omega) (by omega))
        · intro h14
          refine zw_15h (L' := fun r => [(2, 60), (0, r), (0, i4)]) zr_70_39 rfl (fun _ => rfl) ?_
          intro x15 hx15a hx15b
          show zW E (d) 70 42 [(2, 60), (0, x15), (0, i4)] [] m11 Q
          refine zw_15 (c := 1) (L' := [(2, 60), (0, x15), (0, (i4 + 1))]) zr_70_42 rfl (by decide) (by omega) rfl ?_
          refine zw_42 zr_70_45 ?_
          exact zw_less (L := [(2, 60), (0, x15), (0, (i4 + 1))]) ⟨Or.inr rfl, Or.inr rfl, Or.inr rfl, trivial⟩ (ihlp15_6 (x15) ((i4 + 1)) m11 hIm11 hFm11   (by omega) (by omega) (by omega) (by omega) (by omega))
  exact lp15_6 _ (0) (0) m2 hIm2 hFm2   (by omega) (by omega) (by omega) (by omega) (Nat.lt_succ_self _)

abbrev W_120 : List (Nat × Nat) := [(61, 1000), (62, 1000)]
set_option maxHeartbeats 8000000 in
theorem th_120 {E : zE} {d : Nat} {m0 : zM} {a0 : Int} (hd : 4 ≤ d) (hI0 : zInv m0) (ha0 : (-2147483648) ≤ a0 ∧ a0 ≤ 2147483647) : zC E d 120 [(2, 0), (0, a0)] m0 (fun v m' => ∃ r : Int, v = (0, r) ∧ (-2147483648) ≤ r ∧ r ≤ 2147483647 ∧ zInv m' ∧ zFr W_120 m0 m') := by
  have hF0 : zFr W_120 m0 m0 := zFr.rfl
  generalize hQ : (fun (v : zV) (m' : zM) => ∃ r : Int, v = (0, r) ∧ (-2147483648) ≤ r ∧ r ≤ 2147483647 ∧ zInv m' ∧ zFr W_120 m0 m') = Q
  show zW E d 120 0 [(2, 0), (0, a0)] [] m0 Q
  refine zw_3 zr_120_0 rfl ?_
  refine zw_push zr_120_1 ?_
  refine zw_41_4 zr_120_2 ?_ ?_
  · intro h1
    refine zw_7 zr_120_13 rfl ?_
    refine zw_46r (s := 1) zr_120_14 rfl rfl rfl rfl ?_
    refine zw_3 zr_120_17 rfl ?_
    refine zw_C zr_120_18 (Or.inl rfl) zm_49 rfl rfl ⟨Nat.le_of_ble_eq_true rfl, Nat.le_of_ble_eq_true rfl, Nat.le_of_ble_eq_true rfl, rfl, by decide⟩ (by omega) (P := (fun v m' => zW E (d) 120 21 [(2, 0), (0, a0)] (if v.1 = 9 then [] else v :: []) m' Q)) ?_ (fun _ _ h => h)
    generalize hQ1 : (fun v m' => zW E (d) 120 21 [(2, 0), (0, a0)] (if v.1 = 9 then [] else v :: []) m' Q) = Q1
    show zW E (d - 1) 49 0 [(2, 1), (0, a0)] [] m0 Q1
    refine zw_3 zr_49_0 rfl ?_
    refine zw_40_0 zr_49_1 ?_ ?_
    · intro h2
      refine zw_push zr_49_16 ?_
      refine zw_R zr_49_17 (by decide) zm_49 (v := (0, 0)) (zRetB (by omega)) ?_
      rw [← hQ1]
      show zW E (d) 120 21 [(2, 0), (0, a0)] [(0, 0)] m0 Q
      refine zw_40_1 zr_120_21 ?_ ?_
      · intro h3
        refine zw_push zr_120_35 ?_
        refine zw_R zr_120_37 (by decide) zm_120 (v := (0, (-2))) rfl ?_
        rw [← hQ]; exact ⟨_, rfl, by omega, by omega, hI0, hF0⟩
      · intro h4; omega
    · intro h5
      refine zw_3 zr_49_4 rfl ?_
      refine zw_7 zr_49_5 rfl ?_
      obtain ⟨f6, ef6⟩ : ∃ v, m0 1 0 = v := ⟨_, rfl⟩
      have bf6 := ib_1_0 hI0
      rw [ef6] at bf6
      refine zw_46i zr_49_6 ef6 rfl rfl rfl ?_
      refine zw_41_3 zr_49_9 ?_ ?_
      · intro h7
        refine zw_push zr_49_16 ?_
        refine zw_R zr_49_17 (by decide) zm_49 (v := (0, 0)) (zRetB (by omega)) ?_
        rw [← hQ1]
        show zW E (d) 120 21 [(2, 0), (0, a0)] [(0, 0)] m0 Q
        refine zw_40_1 zr_120_21 ?_ ?_
        · intro h8
          refine zw_push zr_120_35 ?_
          refine zw_R zr_120_37 (by decide) zm_120 (v := (0, (-2))) rfl ?_
          rw [← hQ]; exact ⟨_, rfl, by omega, by omega, hI0, hF0⟩
        · intro h9; omega
      · intro h10
        refine zw_push zr_49_12 ?_
        refine zw_42 zr_49_13 ?_
        refine zw_R zr_49_17 (by decide) zm_49 (v := (0, 1)) (zRetB (by omega)) ?_
        rw [← hQ1]
        show zW E (d) 120 21 [(2, 0), (0, a0)] [(0, 1)] m0 Q
        refine zw_40_1 zr_120_21 ?_ ?_
        · intro h11; omega
        · intro h12
          refine zw_7 zr_120_24 rfl ?_
          refine zw_46r (s := 60) zr_120_25 rfl rfl rfl rfl ?_
          refine zw_3 zr_120_28 rfl ?_
          refine zw_C zr_120_29 (Or.inl rfl) zm_71 rfl rfl ⟨Nat.le_of_ble_eq_true rfl, Nat.le_of_ble_eq_true rfl, Nat.le_of_ble_eq_true rfl, rfl, by decide⟩ (by omega) (th_71 (d := d - 1) (by omega) hI0 (a0 := a0)   (by omega)) ?_
          rintro _ m13 ⟨r14, rfl, hr14a, hr14b, hIm13, gm13⟩
          have hFm13 : zFr W_120 m0 m13 := hF0.trans gm13 rfl
          have km13_1_0 : m13 1 0 = f6 := (gm13 1 0 rfl).trans ef6
          show zW E (d) 120 32 [(2, 0), (0, a0)] [(0, r14)] m13 Q
          refine zw_42 zr_120_32 ?_
          refine zw_R zr_120_37 (by decide) zm_120 (v := (0, r14)) rfl ?_
          rw [← hQ]; exact ⟨_, rfl, by omega, by omega, hIm13, hFm13⟩
  · intro h15
    refine zw_7 zr_120_5 rfl ?_
    refine zw_46r (s := 60) zr_120_6 rfl rfl rfl rfl ?_
    refine zw_C zr_120_9 (Or.inl rfl) zm_70 rfl rfl ⟨Nat.le_of_ble_eq_true rfl, Nat.le_of_ble_eq_true rfl, Nat.le_of_ble_eq_true rfl, rfl, by decide⟩ (by omega) (th_70 (d := d - 1) (by omega) hI0    ) ?_
    rintro _ m16 ⟨r17, rfl, hr17a, hr17b, hIm16, gm16⟩
    have hFm16 : zFr W_120 m0 m16 := hF0.trans gm16 rfl
    show zW E (d) 120 12 [(2, 0), (0, a0)] [(0, r17)] m16 Q
    refine zw_R zr_120_12 (by decide) zm_120 (v := (0, r17)) rfl ?_
    rw [← hQ]; exact ⟨_, rfl, by omega, by omega, hIm16, hFm16⟩

abbrev W_190 : List (Nat × Nat) := [(81, 1000)]
set_option maxHeartbeats 8000000 in
theorem th_190 {E : zE} {d : Nat} {m0 : zM} {a0 : Int} (hd : 5 ≤ d) (hI0 : zInv m0) (ha0 : (-2147483648) ≤ a0 ∧ a0 ≤ 2147483647) : zC E d 190 [(2, 69), (0, a0)] m0 (fun v m' => ∃ r : Int, v = (0, r) ∧ (-2147483648) ≤ r ∧ r ≤ 2147483647 ∧ zInv m' ∧ zFr W_190 m0 m') := by
  have hF0 : zFr W_190 m0 m0 := zFr.rfl
  generalize hQ : (fun (v : zV) (m' : zM) => ∃ r : Int, v = (0, r) ∧ (-2147483648) ≤ r ∧ r ≤ 2147483647 ∧ zInv m' ∧ zFr W_190 m0 m') = Q
  show zW E d 190 0 [(2, 69), (0, a0), (9, 0), (9, 0)] [] m0 Q
  refine zw_3 zr_190_0 rfl ?_
  refine zw_push zr_190_1 ?_
  refine zw_41_1 zr_190_2 ?_ ?_
  · intro h1
    refine zw_3 zr_190_16 rfl ?_
    refine zw_push zr_190_17 ?_
    refine zw_41_1 zr_190_18 ?_ ?_
    · intro h2
      refine zw_push zr_190_27 ?_
      refine zw_9 (L' := [(2, 69), (0, a0), (0, 0), (9, 0)]) zr_190_28 (Nat.le_of_ble_eq_true rfl) rfl ?_
      refine zw_push zr_190_29 ?_
      refine zw_9 (L' := [(2, 69), (0, a0), (0, 0), (0, 0)]) zr_190_30 (Nat.le_of_ble_eq_true rfl) rfl ?_
      have lp31_6 : ∀ (nlp31_6 : Nat) (i3 i4 : Int) (m5 : zM), zInv m5 → zFr W_190 m0 m5 → (-2147483648) ≤ i3 → i3 ≤ 2147483647 → 0 ≤ i4 → i4 ≤ 10 → (10 - i4).toNat < nlp31_6 → zW E (d) 190 31 [(2, 69), (0, a0), (0, i3), (0, i4)] [] m5 Q := by
        intro nlp31_6
        induction nlp31_6 with
        | zero =>
          intros
          exact absurd (by assumption : _ < 0) (Nat.not_lt_zero _)
        | succ nlp31_6 ihlp31_6 =>
          intro i3 i4 m5 hIm5 hFm5 li3 ui3 li4 ui4 hmlp31_6
          refine zw_3 zr_190_31 rfl ?_
          refine zw_7 zr_190_32 rfl ?_
          refine zw_C zr_190_33 (Or.inl rfl) zm_141 rfl rfl ⟨Nat.le_of_ble_eq_true rfl, Nat.le_of_ble_eq_true rfl, Nat.le_of_ble_eq_true rfl, rfl, by decide⟩ (by omega) (P := (fun v m' => zW E (d) 190 36 [(2, 69), (0, a0), (0, i3), (0, i4)] (if v.1 = 9 then [(0, i4)] else v :: [(0, i4)]) m' Q)) ?_ (fun _ _ h => h)
          generalize hQ1 : (fun v m' => zW E (d) 190 36 [(2, 69), (0, a0), (0, i3), (0, i4)] (if v.1 = 9 then [(0, i4)] else v :: [(0, i4)]) m' Q) = Q1
          show zW E (d - 1) 141 0 [(2, 69)] [] m5 Q1
          refine zw_7 zr_141_0 rfl ?_
          refine zw_46r (s := 70) zr_141_1 rfl rfl rfl rfl ?_
          refine zw_push zr_141_4 ?_
          obtain ⟨f8, ef8⟩ : ∃ v, m5 70 822 = v := ⟨_, rfl⟩
          have bf8 : 0 ≤ m5 70 822 ∧ m5 70 822 ≤ 10 := ib_70_players hIm5 (by omega)
          rw [ef8] at bf8
          refine zw_48k (c := 70) (len := 826) zr_141_7 rfl rfl (by omega) (by omega) (show (822 : Int).toNat = 822 by omega) ef8 ?_
          refine zw_R zr_141_8 (by decide) zm_141 (v := (0, f8)) rfl ?_
          rw [← hQ1]
          show zW E (d) 190 36 [(2, 69), (0, a0), (0, i3), (0, i4)] [(0, f8), (0, i4)] m5 Q
          refine zw_41_3 zr_190_36 ?_ ?_
          · intro h9
            refine zw_3 zr_190_62 rfl ?_
            refine zw_R zr_190_63 (by decide) zm_190 (v := (0, i3)) rfl ?_
            rw [← hQ]; exact ⟨_, rfl, by omega, by omega, hIm5, hFm5⟩
          · intro h10
            refine zw_3 zr_190_39 rfl ?_
            refine zw_7 zr_190_40 rfl ?_
            refine zw_3 zr_190_41 rfl ?_
            refine zw_C zr_190_42 (Or.inl rfl) zm_189 rfl rfl ⟨Nat.le_of_ble_eq_true rfl, Nat.le_of_ble_eq_true rfl, Nat.le_of_ble_eq_true rfl, rfl, by decide⟩ (by omega) (th_189 (d := d - 1) (by omega) hIm5 (a0 := i4)   (by omega)) ?_
            rintro _ m11 ⟨r12, rfl, hr12a, hr12b, hIm11, gm11⟩
            have hFm11 : zFr W_190 m0 m11 := hFm5.trans gm11 rfl
            have km11_70_822 : m11 70 822 = f8 := (gm11 70 822 rfl).trans ef8
            show zW E (d) 190 45 [(2, 69), (0, a0), (0, i3), (0, i4)] [(0, r12), (0, i3)] m11 Q
            refine zw_3 zr_190_45 rfl ?_
            refine zw_41_4 zr_190_46 ?_ ?_
            · intro h13
              refine zw_push zr_190_53 ?_
              refine zw_16 zr_190_54 (by omega) ?_
              refine zw_9 (L' := [(2, 69), (0, a0), (0, (i3 + 0)), (0, i4)]) zr_190_55 (Nat.le_of_ble_eq_true rfl) rfl ?_
              refine zw_15 (c := 1) (L' := [(2, 69), (0, a0), (0, (i3 + 0)), (0, (i4 + 1))]) zr_190_56 rfl (by decide) (by omega) rfl ?_
              refine zw_42 zr_190_59 ?_
              exact zw_less (L := [(2, 69), (0, a0), (0, (i3 + 0)), (0, (i4 + 1))]) ⟨Or.inr rfl, Or.inr rfl, Or.inr rfl, Or.inr rfl, trivial⟩ (ihlp31_6 ((i3 + 0)) ((i4 + 1)) m11 hIm11 hFm11   (by omega) (by omega) (by omega) (by omega) (by omega))
            · intro h14
              refine zw_push zr_190_49 ?_
              refine zw_42 zr_190_50 ?_
              refine zw_16h zr_190_54 ?_
              intro x15 hx15a hx15b
              refine zw_9 (L' := [(2, 69), (0, a0), (0, x15), (0, i4)]) zr_190_55 (Nat.le_of_ble_eq_true rfl) rfl ?_
              refine zw_15 (c := 1) (L' := [(2, 69), (0, a0), (0, x15), (0, (i4 + 1))]) zr_190_56 rfl (by decide) (by omega) rfl ?_
              refine zw_42 zr_190_59 ?_
              exact zw_less (L := [(2, 69), (0, a0), (0, x15), (0, (i4 + 1))]) ⟨Or.inr rfl, Or.inr rfl, Or.inr rfl, Or.inr rfl, trivial⟩ (ihlp31_6 (x15) ((i4 + 1)) m11 hIm11 hFm11   (by omega) (by omega) (by omega) (by omega) (by omega))
      exact lp31_6 _ (0) (0) m0 hI0 hF0   (by omega) (by omega) (by omega) (by omega) (Nat.lt_succ_self _)
    · intro h16; omega
  · intro h17
    refine zw_7 zr_190_5 rfl ?_
    refine zw_3 zr_190_6 rfl ?_
    refine zw_C zr_190_7 (Or.inl rfl) zm_143 rfl rfl ⟨Nat.le_of_ble_eq_true rfl, Nat.le_of_ble_eq_true rfl, Nat.le_of_ble_eq_true rfl, rfl, by decide⟩ (by omega) (P := (fun v m' => zW E (d) 190 10 [(2, 69), (0, a0), (9, 0), (9, 0)] (if v.1 = 9 then [] else v :: []) m' Q)) ?_ (fun _ _ h => h)
    generalize hQ1 : (fun v m' => zW E (d) 190 10 [(2, 69), (0, a0), (9, 0), (9, 0)] (if v.1 = 9 then [] else v :: []) m' Q) = Q1
    show zW E (d - 1) 143 0 [(2, 69), (0, a0)] [] m0 Q1
    refine zw_3 zr_143_0 rfl ?_
    refine zw_36 zr_143_1 ?_
    refine zw_push zr_143_2 ?_
    refine zw_7 zr_143_3 rfl ?_
    refine zw_C zr_143_4 (Or.inl rfl) zm_141 rfl rfl ⟨Nat.le_of_ble_eq_true rfl, Nat.le_of_ble_eq_true rfl, Nat.le_of_ble_eq_true rfl, rfl, by decide⟩ (by omega) (P := (fun v m' => zW E (d - 1) 143 7 [(2, 69), (0, a0)] (if v.1 = 9 then [(1, 0), (1, a0)] else v :: [(1, 0), (1, a0)]) m' Q1)) ?_ (fun _ _ h => h)
    generalize hQ2 : (fun v m' => zW E (d - 1) 143 7 [(2, 69), (0, a0)] (if v.1 = 9 then [(1, 0), (1, a0)] else v :: [(1, 0), (1, a0)]) m' Q1) = Q2
    show zW E (d - 1 - 1) 141 0 [(2, 69)] [] m0 Q2
    refine zw_7 zr_141_0 rfl ?_
    refine zw_46r (s := 70) zr_141_1 rfl rfl rfl rfl ?_
    refine zw_push zr_141_4 ?_
    obtain ⟨f18, ef18⟩ : ∃ v, m0 70 822 = v := ⟨_, rfl⟩
    have bf18 : 0 ≤ m0 70 822 ∧ m0 70 822 ≤ 10 := ib_70_players hI0 (by omega)
    rw [ef18] at bf18
    refine zw_48k (c := 70) (len := 826) zr_141_7 rfl rfl (by omega) (by omega) (show (822 : Int).toNat = 822 by omega) ef18 ?_
    refine zw_R zr_141_8 (by decide) zm_141 (v := (0, f18)) rfl ?_
    rw [← hQ2]
    show zW E (d - 1) 143 7 [(2, 69), (0, a0)] [(0, f18), (1, 0), (1, a0)] m0 Q1
    refine zw_push zr_143_7 ?_
    refine zw_17 zr_143_8 (by omega) ?_
    refine zw_36 zr_143_9 ?_
    refine zw_C zr_143_10 (Or.inr rfl) zm_140 rfl rfl ⟨Nat.le_of_ble_eq_true rfl, Nat.le_of_ble_eq_true rfl, Nat.le_of_ble_eq_true rfl, rfl, by decide⟩ (by omega) (P := (fun v m' => zW E (d - 1) 143 13 [(2, 69), (0, a0)] (if v.1 = 9 then [] else v :: []) m' Q1)) ?_ (fun _ _ h => h)
    generalize hQ2 : (fun v m' => zW E (d - 1) 143 13 [(2, 69), (0, a0)] (if v.1 = 9 then [] else v :: []) m' Q1) = Q2
    show zW E (d - 1 - 1) 140 0 [(1, a0), (9, 0), (1, 0), (9, 0), (1, (f18 - 1)), (9, 0)] [] m0 Q2
    refine zw_5 zr_140_0 rfl ?_
    refine zw_5 zr_140_1 rfl ?_
    refine zw_39_0 zr_140_2 zr_140_3 ?_ ?_
    · intro h19
      refine zw_push zr_140_17 ?_
      refine zw_R zr_140_18 (by decide) zm_140 (v := (0, 0)) (zRetB (by omega)) ?_
      rw [← hQ2]
      show zW E (d - 1) 143 13 [(2, 69), (0, a0)] [(0, 0)] m0 Q1
      refine zw_R zr_143_13 (by decide) zm_143 (v := (0, 0)) (zRetB (by omega)) ?_
      rw [← hQ1]
      show zW E (d) 190 10 [(2, 69), (0, a0), (9, 0), (9, 0)] [(0, 0)] m0 Q
      refine zw_40_4 zr_190_10 ?_ ?_
      · intro h20; omega
      · intro h21
        refine zw_push zr_190_13 ?_
        refine zw_R zr_190_15 (by decide) zm_190 (v := (0, (-2))) rfl ?_
        rw [← hQ]; exact ⟨_, rfl, by omega, by omega, hI0, hF0⟩
    · intro h22
      refine zw_5 zr_140_6 rfl ?_
      refine zw_6 zr_140_7 rfl ?_
      refine zw_39_2 zr_140_9 zr_140_10 ?_ ?_
      · intro h23
        refine zw_push zr_140_17 ?_
        refine zw_R zr_140_18 (by decide) zm_140 (v := (0, 0)) (zRetB (by omega)) ?_
        rw [← hQ2]
        show zW E (d - 1) 143 13 [(2, 69), (0, a0)] [(0, 0)] m0 Q1
        refine zw_R zr_143_13 (by decide) zm_143 (v := (0, 0)) (zRetB (by omega)) ?_
        rw [← hQ1]
        show zW E (d) 190 10 [(2, 69), (0, a0), (9, 0), (9, 0)] [(0, 0)] m0 Q
        refine zw_40_4 zr_190_10 ?_ ?_
        · intro h24; omega
        · intro h25
          refine zw_push zr_190_13 ?_
          refine zw_R zr_190_15 (by decide) zm_190 (v := (0, (-2))) rfl ?_
          rw [← hQ]; exact ⟨_, rfl, by omega, by omega, hI0, hF0⟩
      · intro h26
        refine zw_push zr_140_13 ?_
        refine zw_42 zr_140_14 ?_
        refine zw_R zr_140_18 (by decide) zm_140 (v := (0, 1)) (zRetB (by omega)) ?_
        rw [← hQ2]
        show zW E (d - 1) 143 13 [(2, 69), (0, a0)] [(0, 1)] m0 Q1
        refine zw_R zr_143_13 (by decide) zm_143 (v := (0, 1)) (zRetB (by omega)) ?_
        rw [← hQ1]
        show zW E (d) 190 10 [(2, 69), (0, a0), (9, 0), (9, 0)] [(0, 1)] m0 Q
        refine zw_40_4 zr_190_10 ?_ ?_
        · intro h27
          refine zw_3 zr_190_16 rfl ?_
          refine zw_push zr_190_17 ?_
          refine zw_41_1 zr_190_18 ?_ ?_
          · intro h28; omega
          · intro h29
            refine zw_7 zr_190_21 rfl ?_
            refine zw_3 zr_190_22 rfl ?_
            refine zw_C zr_190_23 (Or.inl rfl) zm_189 rfl rfl ⟨Nat.le_of_ble_eq_true rfl, Nat.le_of_ble_eq_true rfl, Nat.le_of_ble_eq_true rfl, rfl, by decide⟩ (by omega) (th_189 (d := d - 1) (by omega) hI0 (a0 := a0)   (by omega)) ?_
            rintro _ m30 ⟨r31, rfl, hr31a, hr31b, hIm30, gm30⟩
            have hFm30 : zFr W_190 m0 m30 := hF0.trans gm30 rfl
            have km30_70_822 : m30 70 822 = f18 := (gm30 70 822 rfl).trans ef18
            show zW E (d) 190 26 [(2, 69), (0, a0), (9, 0), (9, 0)] [(0, r31)] m30 Q
            refine zw_R zr_190_26 (by decide) zm_190 (v := (0, r31)) rfl ?_
            rw [← hQ]; exact ⟨_, rfl, by omega, by omega, hIm30, hFm30⟩
        · intro h32; omega

abbrev W_72 : List (Nat × Nat) := [(61, 1000), (62, 1000)]
set_option maxHeartbeats 8000000 in
theorem th_72 {E : zE} {d : Nat} {m0 : zM} {a0 : Int} {a1 : Int} (hd : 4 ≤ d) (hI0 : zInv m0) (ha0 : 0 ≤ a0 ∧ a0 ≤ 9) (ha1 : 0 ≤ a1 ∧ a1 ≤ 9) : zC E d 72 [(2, 60), (0, a0), (0, a1)] m0 (fun v m' => ∃ r : Int, v = (0, r) ∧ (-2147483648) ≤ r ∧ r ≤ 2147483647 ∧ zInv m' ∧ zFr W_72 m0 m') := by
  have hF0 : zFr W_72 m0 m0 := zFr.rfl
  generalize hQ : (fun (v : zV) (m' : zM) => ∃ r : Int, v = (0, r) ∧ (-2147483648) ≤ r ∧ r ≤ 2147483647 ∧ zInv m' ∧ zFr W_72 m0 m') = Q
  show zW E d 72 0 [(2, 60), (0, a0), (0, a1)] [] m0 Q
  refine zw_7 zr_72_0 rfl ?_
  refine zw_3 zr_72_1 rfl ?_
  refine zw_3 zr_72_2 rfl ?_
  refine zw_C zr_72_3 (Or.inl rfl) zm_68 rfl rfl ⟨Nat.le_of_ble_eq_true rfl, Nat.le_of_ble_eq_true rfl, Nat.le_of_ble_eq_true rfl, rfl, by decide⟩ (by omega) (th_68 (d := d - 1) (by omega) hI0 (a0 := a0) (a1 := a1)   (by omega) (by omega)) ?_
  rintro _ m1 ⟨r2, rfl, hr2a, hr2b, hIm1, gm1⟩
  have hFm1 : zFr W_72 m0 m1 := hF0.trans gm1 rfl
  show zW E (d) 72 6 [(2, 60), (0, a0), (0, a1)] [(0, r2)] m1 Q
  refine zw_40_1 zr_72_6 ?_ ?_
  · intro h3
    refine zw_push zr_72_18 ?_
    refine zw_R zr_72_20 (by decide) zm_72 (v := (0, (-5))) rfl ?_
    rw [← hQ]; exact ⟨_, rfl, by omega, by omega, hIm1, hFm1⟩
  · intro h4
    refine zw_7 zr_72_9 rfl ?_
    refine zw_46r (s := 62) zr_72_10 rfl rfl rfl rfl ?_
    refine zw_3 zr_72_13 rfl ?_
    refine zw_48 (c := 62) (len := 10) zr_72_14 rfl rfl (by omega) (by omega) ?_
    intro x5 ex5
    have bx5 := hIm1.ra (c := 62) (len := 10) (k := (a0).toNat) rfl (by omega)
    rw [← ex5] at bx5
    clear ex5
    refine zw_42 zr_72_15 ?_
    refine zw_R zr_72_20 (by decide) zm_72 (v := (0, x5)) rfl ?_
    rw [← hQ]; exact ⟨_, rfl, by omega, by omega, hIm1, hFm1⟩

set_option maxHeartbeats 8000000 in
theorem th_73 {E : zE} {d : Nat} {m0 : zM} {a0 : Int} (hd : 1 ≤ d) (hI0 : zInv m0) (ha0 : 0 ≤ a0 ∧ a0 ≤ 9) : zC E d 73 [(2, 60), (0, a0)] m0 (fun v m' => ∃ r : Int, v = (0, r) ∧ 0 ≤ r ∧ r ≤ 9 ∧ m' = m0) := by
  generalize hQ : (fun (v : zV) (m' : zM) => ∃ r : Int, v = (0, r) ∧ 0 ≤ r ∧ r ≤ 9 ∧ m' = m0) = Q
  show zW E d 73 0 [(2, 60), (0, a0), (9, 0)] [] m0 Q
  refine zw_push zr_73_0 ?_
  refine zw_9 (L' := [(2, 60), (0, a0), (0, 0)]) zr_73_1 (Nat.le_of_ble_eq_true rfl) rfl ?_
  have lp2_2 : ∀ (nlp2_2 : Nat) (i1 : Int), 0 ≤ i1 → i1 ≤ 10 → (10 - i1).toNat < nlp2_2 → zW E (d) 73 2 [(2, 60), (0, a0), (0, i1)] [] m0 Q := by
    intro nlp2_2
    induction nlp2_2 with
    | zero =>
      intros
      exact absurd (by assumption : _ < 0) (Nat.not_lt_zero _)
    | succ nlp2_2 ihlp2_2 =>
      intro i1 li1 ui1 hmlp2_2
      refine zw_3 zr_73_2 rfl ?_
      refine zw_7 zr_73_3 rfl ?_
      refine zw_46r (s := 1) zr_73_4 rfl rfl rfl rfl ?_
      obtain ⟨f4, ef4⟩ : ∃ v, m0 1 0 = v := ⟨_, rfl⟩
      have bf4 := ib_1_0 hI0
      rw [ef4] at bf4
      refine zw_46i zr_73_7 ef4 rfl rfl rfl ?_
      refine zw_41_3 zr_73_10 ?_ ?_
      · intro h5
        refine zw_3 zr_73_51 rfl ?_
        refine zw_R zr_73_52 (by decide) zm_73 (v := (0, a0)) rfl ?_
        rw [← hQ]; exact ⟨_, rfl, by omega, by omega, rfl⟩
      · intro h6
        refine zw_7 zr_73_13 rfl ?_
        refine zw_46r (s := 61) zr_73_14 rfl rfl rfl rfl ?_
        refine zw_3 zr_73_17 rfl ?_
        refine zw_48 (c := 61) (len := 10) zr_73_18 rfl rfl (by omega) (by omega) ?_
        intro x7 ex7
        have bx7 := hI0.ra (c := 61) (len := 10) (k := (a0).toNat) rfl (by omega)
        rw [← ex7] at bx7
        clear ex7
        refine zw_3 zr_73_19 rfl ?_
        refine zw_25h zr_73_20 ?_
        intro x8 hx8a hx8b
        refine zw_push zr_73_21 ?_
        refine zw_21m zr_73_22 (by omega) (by omega) ?_
        intro x9 hx9a hx9b
        refine zw_40_1 zr_73_23 ?_ ?_
        · intro h10
          refine zw_15 (c := 1) (L' := [(2, 60), (0, a0), (0, (i1 + 1))]) zr_73_45 rfl (by decide) (by omega) rfl ?_
          refine zw_42 zr_73_48 ?_
          exact zw_less (L := [(2, 60), (0, a0), (0, (i1 + 1))]) ⟨Or.inr rfl, Or.inr rfl, Or.inr rfl, trivial⟩ (ihlp2_2 ((i1 + 1))  (by omega) (by omega) (by omega))
        · intro h11
          refine zw_7 zr_73_26 rfl ?_
          refine zw_46r (s := 62) zr_73_27 rfl rfl rfl rfl ?_
          refine zw_3 zr_73_30 rfl ?_
          refine zw_48 (c := 62) (len := 10) zr_73_31 rfl rfl (by omega) (by omega) ?_
          intro x12 ex12
          have bx12 := hI0.ra (c := 62) (len := 10) (k := (i1).toNat) rfl (by omega)
          rw [← ex12] at bx12
          clear ex12
          refine zw_7 zr_73_32 rfl ?_
          refine zw_46r (s := 62) zr_73_33 rfl rfl rfl rfl ?_
          refine zw_3 zr_73_36 rfl ?_
          refine zw_48 (c := 62) (len := 10) zr_73_37 rfl rfl (by omega) (by omega) ?_
          intro x13 ex13
          have bx13 := hI0.ra (c := 62) (len := 10) (k := (a0).toNat) rfl (by omega)
          rw [← ex13] at bx13
          clear ex13
          refine zw_push zr_73_38 ?_
          refine zw_17h zr_73_39 ?_
          intro x14 hx14a hx14b
          refine zw_41_4 zr_73_40 ?_ ?_
          · intro h15
            refine zw_15 (c := 1) (L' := [(2, 60), (0, a0), (0, (i1 + 1))]) zr_73_45 rfl (by decide) (by omega) rfl ?_
            refine zw_42 zr_73_48 ?_
            exact zw_less (L := [(2, 60), (0, a0), (0, (i1 + 1))]) ⟨Or.inr rfl, Or.inr rfl, Or.inr rfl, trivial⟩ (ihlp2_2 ((i1 + 1))  (by omega) (by omega) (by omega))
          · intro h16
            refine zw_3 zr_73_43 rfl ?_
            refine zw_R zr_73_44 (by decide) zm_73 (v := (0, i1)) rfl ?_
            rw [← hQ]; exact ⟨_, rfl, by omega, by omega, rfl⟩
  exact lp2_2 _ (0)  (by omega) (by omega) (Nat.lt_succ_self _)

set_option maxHeartbeats 8000000 in
theorem th_74 {E : zE} {d : Nat} {m0 : zM} {a0 : Int} {a1 : Int} (hd : 2 ≤ d) (hI0 : zInv m0) (ha0 : 0 ≤ a0 ∧ a0 ≤ 9) (ha1 : 0 ≤ a1 ∧ a1 ≤ 9) : zC E d 74 [(2, 60), (0, a0), (0, a1)] m0 (fun v m' => ∃ r : Int, v = (0, r) ∧ (-5) ≤ r ∧ r ≤ 59 ∧ m' = m0) := by
  generalize hQ : (fun (v : zV) (m' : zM) => ∃ r : Int, v = (0, r) ∧ (-5) ≤ r ∧ r ≤ 59 ∧ m' = m0) = Q
  show zW E d 74 0 [(2, 60), (0, a0), (0, a1), (9, 0), (9, 0), (9, 0)] [] m0 Q
  refine zw_7 zr_74_0 rfl ?_
  refine zw_46r (s := 1) zr_74_1 rfl rfl rfl rfl ?_
  refine zw_C zr_74_4 (Or.inl rfl) zm_53 rfl rfl ⟨Nat.le_of_ble_eq_true rfl, Nat.le_of_ble_eq_true rfl, Nat.le_of_ble_eq_true rfl, rfl, by decide⟩ (by omega) (th_53 (d := d - 1) (by omega) hI0    ) ?_
  rintro _ _ ⟨r1, rfl, hr1a, hr1b, rfl⟩
  show zW E (d) 74 7 [(2, 60), (0, a0), (0, a1), (9, 0), (9, 0), (9, 0)] [(1, r1)] m0 Q
  refine zw_13 (L' := [(2, 60), (0, a0), (0, a1), (1, r1), (9, 0), (9, 0)]) zr_74_7 (Nat.le_of_ble_eq_true rfl) rfl ?_
  refine zw_push zr_74_8 ?_
  refine zw_10 (L' := [(2, 60), (0, a0), (0, a1), (1, r1), (9, 0), (0, 0)]) zr_74_9 (Nat.le_of_ble_eq_true rfl) rfl ?_
  have lp11_3 : ∀ (nlp11_3 : Nat) (i2 : Int), 0 ≤ i2 → i2 ≤ 60 → (60 - i2).toNat < nlp11_3 → zW E (d) 74 11 [(2, 60), (0, a0), (0, a1), (1, r1), (9, 0), (0, i2)] [] m0 Q := by
    intro nlp11_3
    induction nlp11_3 with
    | zero =>
      intros
      exact absurd (by assumption : _ < 0) (Nat.not_lt_zero _)
    | succ nlp11_3 ihlp11_3 =>
      intro i2 li2 ui2 hmlp11_3
      refine zw_4 zr_74_11 rfl ?_
      refine zw_7 zr_74_13 rfl ?_
      refine zw_46r (s := 1) zr_74_14 rfl rfl rfl rfl ?_
      obtain ⟨f5, ef5⟩ : ∃ v, m0 1 1 = v := ⟨_, rfl⟩
      have bf5 := ib_1_1 hI0
      rw [ef5] at bf5
      refine zw_46i zr_74_17 ef5 rfl rfl rfl ?_
      refine zw_41_3 zr_74_20 ?_ ?_
      · intro h6
        refine zw_push zr_74_69 ?_
        refine zw_R zr_74_71 (by decide) zm_74 (v := (0, (-5))) rfl ?_
        rw [← hQ]; exact ⟨_, rfl, by omega, by omega, rfl⟩
      · intro h7
        refine zw_5 zr_74_23 rfl ?_
        refine zw_4 zr_74_24 rfl ?_
        refine zw_34h zr_74_26 ?_
        intro x8 hx8a hx8b
        refine zw_push zr_74_27 ?_
        refine zw_30h zr_74_28 ?_
        intro x9 hx9a hx9b
        refine zw_push zr_74_29 ?_
        refine zw_39_1 zr_74_30 zr_74_31 ?_ ?_
        · intro h10
          refine zw_15 (c := 1) (L' := [(2, 60), (0, a0), (0, a1), (1, r1), (9, 0), (0, (i2 + 1))]) zr_74_63 rfl (by decide) (by omega) rfl ?_
          refine zw_42 zr_74_66 ?_
          exact zw_less (L := [(2, 60), (0, a0), (0, a1), (1, r1), (9, 0), (0, (i2 + 1))]) ⟨Or.inr rfl, Or.inr rfl, Or.inr rfl, Or.inr rfl, Or.inl rfl, Or.inr rfl, trivial⟩ (ihlp11_3 ((i2 + 1))  (by omega) (by omega) (by omega))
        · intro h11
          refine zw_7 zr_74_34 rfl ?_
          refine zw_46r (s := 1) zr_74_35 rfl rfl rfl rfl ?_
          refine zw_4 zr_74_38 rfl ?_
          refine zw_3 zr_74_40 rfl ?_
          refine zw_C zr_74_41 (Or.inl rfl) zm_44 rfl rfl ⟨Nat.le_of_ble_eq_true rfl, Nat.le_of_ble_eq_true rfl, Nat.le_of_ble_eq_true rfl, rfl, by decide⟩ (by omega) (P := (fun v m' => zW E (d) 74 44 [(2, 60), (0, a0), (0, a1), (1, r1), (9, 0), (0, i2)] (if v.1 = 9 then [] else v :: []) m' Q)) ?_ (fun _ _ h => h)
          generalize hQ1 : (fun v m' => zW E (d) 74 44 [(2, 60), (0, a0), (0, a1), (1, r1), (9, 0), (0, i2)] (if v.1 = 9 then [] else v :: []) m' Q) = Q1
          show zW E (d - 1) 44 0 [(2, 1), (0, i2), (0, a0)] [] m0 Q1
          refine zw_7 zr_44_0 rfl ?_
          refine zw_46r (s := 6) zr_44_1 rfl rfl rfl rfl ?_
          refine zw_3 zr_44_4 rfl ?_
          refine zw_48 (c := 6) (len := 60) zr_44_5 rfl rfl (by omega) (by omega) ?_
          intro x12 ex12
          have bx12 := ib_6 hI0 (k := (i2).toNat) (by omega)
          rw [← ex12] at bx12
          refine zw_3 zr_44_6 rfl ?_
          refine zw_41_1 zr_44_7 ?_ ?_
          · intro h13
            refine zw_push zr_44_20 ?_
            refine zw_42 zr_44_21 ?_
            refine zw_R zr_44_25 (by decide) zm_44 (v := (0, 1)) (zRetB (by omega)) ?_
            rw [← hQ1]
            show zW E (d) 74 44 [(2, 60), (0, a0), (0, a1), (1, r1), (9, 0), (0, i2)] [(0, 1)] m0 Q
            refine zw_40_1 zr_74_44 ?_ ?_
            · intro h14; omega
            · intro h15
              refine zw_7 zr_74_47 rfl ?_
              refine zw_46r (s := 1) zr_74_48 rfl rfl rfl rfl ?_
              refine zw_4 zr_74_51 rfl ?_
              refine zw_3 zr_74_53 rfl ?_
              refine zw_C zr_74_54 (Or.inl rfl) zm_44 rfl rfl ⟨Nat.le_of_ble_eq_true rfl, Nat.le_of_ble_eq_true rfl, Nat.le_of_ble_eq_true rfl, rfl, by decide⟩ (by omega) (P := (fun v m' => zW E (d) 74 57 [(2, 60), (0, a0), (0, a1), (1, r1), (9, 0), (0, i2)] (if v.1 = 9 then [] else v :: []) m' Q)) ?_ (fun _ _ h => h)
              generalize hQ1 : (fun v m' => zW E (d) 74 57 [(2, 60), (0, a0), (0, a1), (1, r1), (9, 0), (0, i2)] (if v.1 = 9 then [] else v :: []) m' Q) = Q1
              show zW E (d - 1) 44 0 [(2, 1), (0, i2), (0, a1)] [] m0 Q1
              refine zw_7 zr_44_0 rfl ?_
              refine zw_46r (s := 6) zr_44_1 rfl rfl rfl rfl ?_
              refine zw_3 zr_44_4 rfl ?_
              refine zw_48k (c := 6) (len := 60) zr_44_5 rfl rfl (by omega) (by omega) rfl ex12.symm ?_
              refine zw_3 zr_44_6 rfl ?_
              refine zw_41_1 zr_44_7 ?_ ?_
              · intro h16
                refine zw_push zr_44_20 ?_
                refine zw_42 zr_44_21 ?_
                refine zw_R zr_44_25 (by decide) zm_44 (v := (0, 1)) (zRetB (by omega)) ?_
                rw [← hQ1]
                show zW E (d) 74 57 [(2, 60), (0, a0), (0, a1), (1, r1), (9, 0), (0, i2)] [(0, 1)] m0 Q
                refine zw_40_1 zr_74_57 ?_ ?_
                · intro h17; omega
                · intro h18
                  refine zw_4 zr_74_60 rfl ?_
                  refine zw_R zr_74_62 (by decide) zm_74 (v := (0, i2)) rfl ?_
                  rw [← hQ]; exact ⟨_, rfl, by omega, by omega, rfl⟩
              · intro h19
                refine zw_7 zr_44_10 rfl ?_
                refine zw_46r (s := 7) zr_44_11 rfl rfl rfl rfl ?_
                refine zw_3 zr_44_14 rfl ?_
                refine zw_48 (c := 7) (len := 60) zr_44_15 rfl rfl (by omega) (by omega) ?_
                intro x20 ex20
                have bx20 := ib_7 hI0 (k := (i2).toNat) (by omega)
                rw [← ex20] at bx20
                refine zw_3 zr_44_16 rfl ?_
                refine zw_41_4 zr_44_17 ?_ ?_
                · intro h21
                  refine zw_push zr_44_24 ?_
                  refine zw_R zr_44_25 (by decide) zm_44 (v := (0, 0)) (zRetB (by omega)) ?_
                  rw [← hQ1]
                  show zW E (d) 74 57 [(2, 60), (0, a0), (0, a1), (1, r1), (9, 0), (0, i2)] [(0, 0)] m0 Q
                  refine zw_40_1 zr_74_57 ?_ ?_
                  · intro h22
                    refine zw_15 (c := 1) (L' := [(2, 60), (0, a0), (0, a1), (1, r1), (9, 0), (0, (i2 + 1))]) zr_74_63 rfl (by decide) (by omega) rfl ?_
                    refine zw_42 zr_74_66 ?_
                    exact zw_less (L := [(2, 60), (0, a0), (0, a1), (1, r1), (9, 0), (0, (i2 + 1))]) ⟨Or.inr rfl, Or.inr rfl, Or.inr rfl, Or.inr rfl, Or.inl rfl, Or.inr rfl, trivial⟩ (ihlp11_3 ((i2 + 1))  (by omega) (by omega) (by omega))
                  · intro h23; omega
                · intro h24
                  refine zw_push zr_44_20 ?_
                  refine zw_42 zr_44_21 ?_
                  refine zw_R zr_44_25 (by decide) zm_44 (v := (0, 1)) (zRetB (by omega)) ?_
                  rw [← hQ1]
                  show zW E (d) 74 57 [(2, 60), (0, a0), (0, a1), (1, r1), (9, 0), (0, i2)] [(0, 1)] m0 Q
                  refine zw_40_1 zr_74_57 ?_ ?_
                  · intro h25; omega
                  · intro h26
                    refine zw_4 zr_74_60 rfl ?_
                    refine zw_R zr_74_62 (by decide) zm_74 (v := (0, i2)) rfl ?_
                    rw [← hQ]; exact ⟨_, rfl, by omega, by omega, rfl⟩
          · intro h27
            refine zw_7 zr_44_10 rfl ?_
            refine zw_46r (s := 7) zr_44_11 rfl rfl rfl rfl ?_
            refine zw_3 zr_44_14 rfl ?_
            refine zw_48 (c := 7) (len := 60) zr_44_15 rfl rfl (by omega) (by omega) ?_
            intro x28 ex28
            have bx28 := ib_7 hI0 (k := (i2).toNat) (by omega)
            rw [← ex28] at bx28
            refine zw_3 zr_44_16 rfl ?_
            refine zw_41_4 zr_44_17 ?_ ?_
            · intro h29
              refine zw_push zr_44_24 ?_
              refine zw_R zr_44_25 (by decide) zm_44 (v := (0, 0)) (zRetB (by omega)) ?_
              rw [← hQ1]
              show zW E (d) 74 44 [(2, 60), (0, a0), (0, a1), (1, r1), (9, 0), (0, i2)] [(0, 0)] m0 Q
              refine zw_40_1 zr_74_44 ?_ ?_
              · intro h30
                refine zw_15 (c := 1) (L' := [(2, 60), (0, a0), (0, a1), (1, r1), (9, 0), (0, (i2 + 1))]) zr_74_63 rfl (by decide) (by omega) rfl ?_
                refine zw_42 zr_74_66 ?_
                exact zw_less (L := [(2, 60), (0, a0), (0, a1), (1, r1), (9, 0), (0, (i2 + 1))]) ⟨Or.inr rfl, Or.inr rfl, Or.inr rfl, Or.inr rfl, Or.inl rfl, Or.inr rfl, trivial⟩ (ihlp11_3 ((i2 + 1))  (by omega) (by omega) (by omega))
              · intro h31; omega
            · intro h32
              refine zw_push zr_44_20 ?_
              refine zw_42 zr_44_21 ?_
              refine zw_R zr_44_25 (by decide) zm_44 (v := (0, 1)) (zRetB (by omega)) ?_
              rw [← hQ1]
              show zW E (d) 74 44 [(2, 60), (0, a0), (0, a1), (1, r1), (9, 0), (0, i2)] [(0, 1)] m0 Q
              refine zw_40_1 zr_74_44 ?_ ?_
              · intro h33; omega
              · intro h34
                refine zw_7 zr_74_47 rfl ?_
                refine zw_46r (s := 1) zr_74_48 rfl rfl rfl rfl ?_
                refine zw_4 zr_74_51 rfl ?_
                refine zw_3 zr_74_53 rfl ?_
                refine zw_C zr_74_54 (Or.inl rfl) zm_44 rfl rfl ⟨Nat.le_of_ble_eq_true rfl, Nat.le_of_ble_eq_true rfl, Nat.le_of_ble_eq_true rfl, rfl, by decide⟩ (by omega) (P := (fun v m' => zW E (d) 74 57 [(2, 60), (0, a0), (0, a1), (1, r1), (9, 0), (0, i2)] (if v.1 = 9 then [] else v :: []) m' Q)) ?_ (fun _ _ h => h)
                generalize hQ1 : (fun v m' => zW E (d) 74 57 [(2, 60), (0, a0), (0, a1), (1, r1), (9, 0), (0, i2)] (if v.1 = 9 then [] else v :: []) m' Q) = Q1
                show zW E (d - 1) 44 0 [(2, 1), (0, i2), (0, a1)] [] m0 Q1
                refine zw_7 zr_44_0 rfl ?_
                refine zw_46r (s := 6) zr_44_1 rfl rfl rfl rfl ?_
                refine zw_3 zr_44_4 rfl ?_
                refine zw_48k (c := 6) (len := 60) zr_44_5 rfl rfl (by omega) (by omega) rfl ex12.symm ?_
                refine zw_3 zr_44_6 rfl ?_
                refine zw_41_1 zr_44_7 ?_ ?_
                · intro h35
                  refine zw_push zr_44_20 ?_
                  refine zw_42 zr_44_21 ?_
                  refine zw_R zr_44_25 (by decide) zm_44 (v := (0, 1)) (zRetB (by omega)) ?_
                  rw [← hQ1]
                  show zW E (d) 74 57 [(2, 60), (0, a0), (0, a1), (1, r1), (9, 0), (0, i2)] [(0, 1)] m0 Q
                  refine zw_40_1 zr_74_57 ?_ ?_
                  · intro h36; omega
                  · intro h37
                    refine zw_4 zr_74_60 rfl ?_
                    refine zw_R zr_74_62 (by decide) zm_74 (v := (0, i2)) rfl ?_
                    rw [← hQ]; exact ⟨_, rfl, by omega, by omega, rfl⟩
                · intro h38
                  refine zw_7 zr_44_10 rfl ?_
                  refine zw_46r (s := 7) zr_44_11 rfl rfl rfl rfl ?_
                  refine zw_3 zr_44_14 rfl ?_
                  refine zw_48k (c := 7) (len := 60) zr_44_15 rfl rfl (by omega) (by omega) rfl ex28.symm ?_
                  refine zw_3 zr_44_16 rfl ?_
                  refine zw_41_4 zr_44_17 ?_ ?_
                  · intro h39
                    refine zw_push zr_44_24 ?_
                    refine zw_R zr_44_25 (by decide) zm_44 (v := (0, 0)) (zRetB (by omega)) ?_
                    rw [← hQ1]
                    show zW E (d) 74 57 [(2, 60), (0, a0), (0, a1), (1, r1), (9, 0), (0, i2)] [(0, 0)] m0 Q
                    refine zw_40_1 zr_74_57 ?_ ?_
                    · intro h40
                      refine zw_15 (c := 1) (L' := [(2, 60), (0, a0), (0, a1), (1, r1), (9, 0), (0, (i2 + 1))]) zr_74_63 rfl (by decide) (by omega) rfl ?_
                      refine zw_42 zr_74_66 ?_
                      exact zw_less (L := [(2, 60), (0, a0), (0, a1), (1, r1), (9, 0), (0, (i2 + 1))]) ⟨Or.inr rfl, Or.inr rfl, Or.inr rfl, Or.inr rfl, Or.inl rfl, Or.inr rfl, trivial⟩ (ihlp11_3 ((i2 + 1))  (by omega) (by omega) (by omega))
                    · intro h41; omega
                  · intro h42
                    refine zw_push zr_44_20 ?_
                    refine zw_42 zr_44_21 ?_
                    refine zw_R zr_44_25 (by decide) zm_44 (v := (0, 1)) (zRetB (by omega)) ?_
                    rw [← hQ1]
                    show zW E (d) 74 57 [(2, 60), (0, a0), (0, a1), (1, r1), (9, 0), (0, i2)] [(0, 1)] m0 Q
                    refine zw_40_1 zr_74_57 ?_ ?_
                    · intro h43; omega
                    · intro h44
                      refine zw_4 zr_74_60 rfl ?_
                      refine zw_R zr_74_62 (by decide) zm_74 (v := (0, i2)) rfl ?_
                      rw [← hQ]; exact ⟨_, rfl, by omega, by omega, rfl⟩
  exact lp11_3 _ (0)  (by omega) (by omega) (Nat.lt_succ_self _)

set_option maxHeartbeats 8000000 in
theorem th_75 {E : zE} {d : Nat} {m0 : zM} {a0 : Int} {a1 : Int} (hd : 3 ≤ d) (hI0 : zInv m0) (ha0 : 0 ≤ a0 ∧ a0 ≤ 9) (ha1 : 0 ≤ a1 ∧ a1 ≤ 2147483646) : zC E d 75 [(2, 60), (0, a0), (0, a1)] m0 (fun v m' => ∃ r : Int, v = (0, r) ∧ (-5) ≤ r ∧ r ≤ 59 ∧ m' = m0) := by
  generalize hQ : (fun (v : zV) (m' : zM) => ∃ r : Int, v = (0, r) ∧ (-5) ≤ r ∧ r ≤ 59 ∧ m' = m0) = Q
  show zW E d 75 0 [(2, 60), (0, a0), (0, a1), (9, 0), (9, 0)] [] m0 Q
  refine zw_3 zr_75_0 rfl ?_
  refine zw_9 (L' := [(2, 60), (0, a0), (0, a1), (0, a0), (9, 0)]) zr_75_1 (Nat.le_of_ble_eq_true rfl) rfl ?_
  refine zw_push zr_75_2 ?_
  refine zw_10 (L' := [(2, 60), (0, a0), (0, a1), (0, a0), (0, 0)]) zr_75_3 (Nat.le_of_ble_eq_true rfl) rfl ?_
  have lp5_3 : ∀ (nlp5_3 : Nat) (i1 i2 : Int), 0 ≤ i1 → i1 ≤ 9 → 0 ≤ i2 → i2 ≤ 10 → (10 - i2).toNat < nlp5_3 → zW E (d) 75 5 [(2, 60), (0, a0), (0, a1), (0, i1), (0, i2)] [] m0 Q := by
    intro nlp5_3
    induction nlp5_3 with
    | zero =>
      intros
      exact absurd (by assumption : _ < 0) (Nat.not_lt_zero _)
    | succ nlp5_3 ihlp5_3 =>
      intro i1 i2 li1 ui1 li2 ui2 hmlp5_3
      refine zw_4 zr_75_5 rfl ?_
      refine zw_3 zr_75_7 rfl ?_
      refine zw_41_3 zr_75_8 ?_ ?_
      · intro h5
        refine zw_7 zr_75_30 rfl ?_
        refine zw_3 zr_75_31 rfl ?_
        refine zw_7 zr_75_32 rfl ?_
        refine zw_3 zr_75_33 rfl ?_
        refine zw_C zr_75_34 (Or.inl rfl) zm_73 rfl rfl ⟨Nat.le_of_ble_eq_true rfl, Nat.le_of_ble_eq_true rfl, Nat.le_of_ble_eq_true rfl, rfl, by decide⟩ (by omega) (th_73 (d := d - 1) (by omega) hI0 (a0 := i1)   (by omega)) ?_
        rintro _ _ ⟨r6, rfl, hr6a, hr6b, rfl⟩
        show zW E (d) 75 37 [(2, 60), (0, a0), (0, a1), (0, i1), (0, i2)] [(0, r6), (0, i1), (2, 60)] m0 Q
        refine zw_C zr_75_37 (Or.inl rfl) zm_74 rfl rfl ⟨Nat.le_of_ble_eq_true rfl, Nat.le_of_ble_eq_true rfl, Nat.le_of_ble_eq_true rfl, rfl, by decide⟩ (by omega) (th_74 (d := d - 1) (by omega) hI0 (a0 := i1) (a1 := r6)   (by omega) (by omega)) ?_
        rintro _ _ ⟨r7, rfl, hr7a, hr7b, rfl⟩
        show zW E (d) 75 40 [(2, 60), (0, a0), (0, a1), (0, i1), (0, i2)] [(0, r7)] m0 Q
        refine zw_R zr_75_40 (by decide) zm_75 (v := (0, r7)) rfl ?_
        rw [← hQ]; exact ⟨_, rfl, by omega, by omega, rfl⟩
      · intro h8
        refine zw_4 zr_75_11 rfl ?_
        refine zw_push zr_75_13 ?_
        refine zw_41_3 zr_75_15 ?_ ?_
        · intro h9
          refine zw_7 zr_75_30 rfl ?_
          refine zw_3 zr_75_31 rfl ?_
          refine zw_7 zr_75_32 rfl ?_
          refine zw_3 zr_75_33 rfl ?_
          refine zw_C zr_75_34 (Or.inl rfl) zm_73 rfl rfl ⟨Nat.le_of_ble_eq_true rfl, Nat.le_of_ble_eq_true rfl, Nat.le_of_ble_eq_true rfl, rfl, by decide⟩ (by omega) (th_73 (d := d - 1) (by omega) hI0 (a0 := i1)   (by omega)) ?_
          rintro _ _ ⟨r10, rfl, hr10a, hr10b, rfl⟩
          show zW E (d) 75 37 [(2, 60), (0, a0), (0, a1), (0, i1), (0, i2)] [(0, r10), (0, i1), (2, 60)] m0 Q
          refine zw_C zr_75_37 (Or.inl rfl) zm_74 rfl rfl ⟨Nat.le_of_ble_eq_true rfl, Nat.le_of_ble_eq_true rfl, Nat.le_of_ble_eq_true rfl, rfl, by decide⟩ (by omega) (th_74 (d := d - 1) (by omega) hI0 (a0 := i1) (a1 := r10)   (by omega) (by omega)) ?_
          rintro _ _ ⟨r11, rfl, hr11a, hr11b, rfl⟩
          show zW E (d) 75 40 [(2, 60), (0, a0), (0, a1), (0, i1), (0, i2)] [(0, r11)] m0 Q
          refine zw_R zr_75_40 (by decide) zm_75 (v := (0, r11)) rfl ?_
          rw [← hQ]; exact ⟨_, rfl, by omega, by omega, rfl⟩
        · intro h12
          refine zw_7 zr_75_18 rfl ?_
          refine zw_3 zr_75_19 rfl ?_
          refine zw_C zr_75_20 (Or.inl rfl) zm_73 rfl rfl ⟨Nat.le_of_ble_eq_true rfl, Nat.le_of_ble_eq_true rfl, Nat.le_of_ble_eq_true rfl, rfl, by decide⟩ (by omega) (th_73 (d := d - 1) (by omega) hI0 (a0 := i1)   (by omega)) ?_
          rintro _ _ ⟨r13, rfl, hr13a, hr13b, rfl⟩
          show zW E (d) 75 23 [(2, 60), (0, a0), (0, a1), (0, i1), (0, i2)] [(0, r13)] m0 Q
          refine zw_9 (L' := [(2, 60), (0, a0), (0, a1), (0, r13), (0, i2)]) zr_75_23 (Nat.le_of_ble_eq_true rfl) rfl ?_
          refine zw_15 (c := 1) (L' := [(2, 60), (0, a0), (0, a1), (0, r13), (0, (i2 + 1))]) zr_75_24 rfl (by decide) (by omega) rfl ?_
          refine zw_42 zr_75_27 ?_
          exact zw_less (L := [(2, 60), (0, a0), (0, a1), (0, r13), (0, (i2 + 1))]) ⟨Or.inr rfl, Or.inr rfl, Or.inr rfl, Or.inr rfl, Or.inr rfl, trivial⟩ (ihlp5_3 (r13) ((i2 + 1))  (by omega) (by omega) (by omega) (by omega) (by omega))
  exact lp5_3 _ (a0) (0)  (by omega) (by omega) (by omega) (by omega) (Nat.lt_succ_self _)

abbrev W_121 : List (Nat × Nat) := [(61, 1000), (62, 1000)]
set_option maxHeartbeats 8000000 in
theorem th_121 {E : zE} {d : Nat} {m0 : zM} {a0 : Int} {a1 : Int} {a2 : Int} (hd : 5 ≤ d) (hI0 : zInv m0) (ha0 : (-2147483648) ≤ a0 ∧ a0 ≤ 2147483647) (ha1 : (-2147483648) ≤ a1 ∧ a1 ≤ 2147483647) (ha2 : (-2147483648) ≤ a2 ∧ a2 ≤ 2147483647) : zC E d 121 [(2, 0), (0, a0), (0, a1), (0, a2)] m0 (fun v m' => ∃ r : Int, v = (0, r) ∧ (-2147483648) ≤ r ∧ r ≤ 2147483647 ∧ zInv m' ∧ zFr W_121 m0 m') := by
  have hF0 : zFr W_121 m0 m0 := zFr.rfl
  generalize hQ : (fun (v : zV) (m' : zM) => ∃ r : Int, v = (0, r) ∧ (-2147483648) ≤ r ∧ r ≤ 2147483647 ∧ zInv m' ∧ zFr W_121 m0 m') = Q
  show zW E d 121 0 [(2, 0), (0, a0), (0, a1), (0, a2), (9, 0)] [] m0 Q
  refine zw_7 zr_121_0 rfl ?_
  refine zw_46r (s := 1) zr_121_1 rfl rfl rfl rfl ?_
  refine zw_3 zr_121_4 rfl ?_
  refine zw_C zr_121_5 (Or.inl rfl) zm_49 rfl rfl ⟨Nat.le_of_ble_eq_true rfl, Nat.le_of_ble_eq_true rfl, Nat.le_of_ble_eq_true rfl, rfl, by decide⟩ (by omega) (P := (fun v m' => zW E (d) 121 8 [(2, 0), (0, a0), (0, a1), (0, a2), (9, 0)] (if v.1 = 9 then [] else v :: []) m' Q)) ?_ (fun _ _ h => h)
  generalize hQ1 : (fun v m' => zW E (d) 121 8 [(2, 0), (0, a0), (0, a1), (0, a2), (9, 0)] (if v.1 = 9 then [] else v :: []) m' Q) = Q1
  show zW E (d - 1) 49 0 [(2, 1), (0, a0)] [] m0 Q1
  refine zw_3 zr_49_0 rfl ?_
  refine zw_40_0 zr_49_1 ?_ ?_
  · intro h1
    refine zw_push zr_49_16 ?_
    refine zw_R zr_49_17 (by decide) zm_49 (v := (0, 0)) (zRetB (by omega)) ?_
    rw [← hQ1]
    show zW E (d) 121 8 [(2, 0), (0, a0), (0, a1), (0, a2), (9, 0)] [(0, 0)] m0 Q
    refine zw_40_1 zr_121_8 ?_ ?_
    · intro h2
      refine zw_push zr_121_27 ?_
      refine zw_R zr_121_29 (by decide) zm_121 (v := (0, (-10))) rfl ?_
      rw [← hQ]; exact ⟨_, rfl, by omega, by omega, hI0, hF0⟩
    · intro h3; omega
  · intro h4
    refine zw_3 zr_49_4 rfl ?_
    refine zw_7 zr_49_5 rfl ?_
    obtain ⟨f5, ef5⟩ : ∃ v, m0 1 0 = v := ⟨_, rfl⟩
    have bf5 := ib_1_0 hI0
    rw [ef5] at bf5
    refine zw_46i zr_49_6 ef5 rfl rfl rfl ?_
    refine zw_41_3 zr_49_9 ?_ ?_
    · intro h6
      refine zw_push zr_49_16 ?_
      refine zw_R zr_49_17 (by decide) zm_49 (v := (0, 0)) (zRetB (by omega)) ?_
      rw [← hQ1]
      show zW E (d) 121 8 [(2, 0), (0, a0), (0, a1), (0, a2), (9, 0)] [(0, 0)] m0 Q
      refine zw_40_1 zr_121_8 ?_ ?_
      · intro h7
        refine zw_push zr_121_27 ?_
        refine zw_R zr_121_29 (by decide) zm_121 (v := (0, (-10))) rfl ?_
        rw [← hQ]; exact ⟨_, rfl, by omega, by omega, hI0, hF0⟩
      · intro h8; omega
    · intro h9
      refine zw_push zr_49_12 ?_
      refine zw_42 zr_49_13 ?_
      refine zw_R zr_49_17 (by decide) zm_49 (v := (0, 1)) (zRetB (by omega)) ?_
      rw [← hQ1]
      show zW E (d) 121 8 [(2, 0), (0, a0), (0, a1), (0, a2), (9, 0)] [(0, 1)] m0 Q
      refine zw_40_1 zr_121_8 ?_ ?_
      · intro h10; omega
      · intro h11
        refine zw_7 zr_121_11 rfl ?_
        refine zw_46r (s := 1) zr_121_12 rfl rfl rfl rfl ?_
        refine zw_3 zr_121_15 rfl ?_
        refine zw_C zr_121_16 (Or.inl rfl) zm_49 rfl rfl ⟨Nat.le_of_ble_eq_true rfl, Nat.le_of_ble_eq_true rfl, Nat.le_of_ble_eq_true rfl, rfl, by decide⟩ (by omega) (P := (fun v m' => zW E (d) 121 19 [(2, 0), (0, a0), (0, a1), (0, a2), (9, 0)] (if v.1 = 9 then [] else v :: []) m' Q)) ?_ (fun _ _ h => h)
        generalize hQ1 : (fun v m' => zW E (d) 121 19 [(2, 0), (0, a0), (0, a1), (0, a2), (9, 0)] (if v.1 = 9 then [] else v :: []) m' Q) = Q1
        show zW E (d - 1) 49 0 [(2, 1), (0, a1)] [] m0 Q1
        refine zw_3 zr_49_0 rfl ?_
        refine zw_40_0 zr_49_1 ?_ ?_
        · intro h12
          refine zw_push zr_49_16 ?_
          refine zw_R zr_49_17 (by decide) zm_49 (v := (0, 0)) (zRetB (by omega)) ?_
          rw [← hQ1]
          show zW E (d) 121 19 [(2, 0), (0, a0), (0, a1), (0, a2), (9, 0)] [(0, 0)] m0 Q
          refine zw_40_1 zr_121_19 ?_ ?_
          · intro h13
            refine zw_push zr_121_27 ?_
            refine zw_R zr_121_29 (by decide) zm_121 (v := (0, (-10))) rfl ?_
            rw [← hQ]; exact ⟨_, rfl, by omega, by omega, hI0, hF0⟩
          · intro h14; omega
        · intro h15
          refine zw_3 zr_49_4 rfl ?_
          refine zw_7 zr_49_5 rfl ?_
          refine zw_46i zr_49_6 ef5 rfl rfl rfl ?_
          refine zw_41_3 zr_49_9 ?_ ?_
          · intro h16
            refine zw_push zr_49_16 ?_
            refine zw_R zr_49_17 (by decide) zm_49 (v := (0, 0)) (zRetB (by omega)) ?_
            rw [← hQ1]
            show zW E (d) 121 19 [(2, 0), (0, a0), (0, a1), (0, a2), (9, 0)] [(0, 0)] m0 Q
            refine zw_40_1 zr_121_19 ?_ ?_
            · intro h17
              refine zw_push zr_121_27 ?_
              refine zw_R zr_121_29 (by decide) zm_121 (v := (0, (-10))) rfl ?_
              rw [← hQ]; exact ⟨_, rfl, by omega, by omega, hI0, hF0⟩
            · intro h18; omega
          · intro h19
            refine zw_push zr_49_12 ?_
            refine zw_42 zr_49_13 ?_
            refine zw_R zr_49_17 (by decide) zm_49 (v := (0, 1)) (zRetB (by omega)) ?_
            rw [← hQ1]
            show zW E (d) 121 19 [(2, 0), (0, a0), (0, a1), (0, a2), (9, 0)] [(0, 1)] m0 Q
            refine zw_40_1 zr_121_19 ?_ ?_
            · intro h20; omega
            · intro h21
              refine zw_3 zr_121_22 rfl ?_
              refine zw_push zr_121_23 ?_
              refine zw_41_3 zr_121_24 ?_ ?_
              · intro h22
                refine zw_7 zr_121_30 rfl ?_
                refine zw_46r (s := 60) zr_121_31 rfl rfl rfl rfl ?_
                refine zw_3 zr_121_34 rfl ?_
                refine zw_3 zr_121_35 rfl ?_
                refine zw_C zr_121_36 (Or.inl rfl) zm_72 rfl rfl ⟨Nat.le_of_ble_eq_true rfl, Nat.le_of_ble_eq_true rfl, Nat.le_of_ble_eq_true rfl, rfl, by decide⟩ (by omega) (th_72 (d := d - 1) (by omega) hI0 (a0 := a0) (a1 := a1)   (by omega) (by omega)) ?_
                rintro _ m23 ⟨r24, rfl, hr24a, hr24b, hIm23, gm23⟩
                have hFm23 : zFr W_121 m0 m23 := hF0.trans gm23 rfl
                have km23_1_0 : m23 1 0 = f5 := (gm23 1 0 rfl).trans ef5
                show zW E (d) 121 39 [(2, 0), (0, a0), (0, a1), (0, a2), (9, 0)] [(0, r24)] m23 Q
                refine zw_10 (L' := [(2, 0), (0, a0), (0, a1), (0, a2), (0, r24)]) zr_121_39 (Nat.le_of_ble_eq_true rfl) rfl ?_
                refine zw_3 zr_121_41 rfl ?_
                refine zw_push zr_121_42 ?_
                refine zw_41_4 zr_121_43 ?_ ?_
                · intro h25
                  refine zw_3 zr_121_49 rfl ?_
                  refine zw_4 zr_121_50 rfl ?_
                  refine zw_41_3 zr_121_52 ?_ ?_
                  · intro h26
                    refine zw_push zr_121_67 ?_
                    refine zw_R zr_121_69 (by decide) zm_121 (v := (0, (-5))) rfl ?_
                    rw [← hQ]; exact ⟨_, rfl, by omega, by omega, hIm23, hFm23⟩
                  · intro h27
                    refine zw_7 zr_121_55 rfl ?_
                    refine zw_46r (s := 60) zr_121_56 rfl rfl rfl rfl ?_
                    refine zw_3 zr_121_59 rfl ?_
                    refine zw_3 zr_121_60 rfl ?_
                    refine zw_C zr_121_61 (Or.inl rfl) zm_75 rfl rfl ⟨Nat.le_of_ble_eq_true rfl, Nat.le_of_ble_eq_true rfl, Nat.le_of_ble_eq_true rfl, rfl, by decide⟩ (by omega) (th_75 (d := d - 1) (by omega) hIm23 (a0 := a0) (a1 := a2)   (by omega) (by omega)) ?_
                    rintro _ _ ⟨r28, rfl, hr28a, hr28b, rfl⟩
                    show zW E (d) 121 64 [(2, 0), (0, a0), (0, a1), (0, a2), (0, r24)] [(0, r28)] m23 Q
                    refine zw_42 zr_121_64 ?_
                    refine zw_R zr_121_69 (by decide) zm_121 (v := (0, r28)) rfl ?_
                    rw [← hQ]; exact ⟨_, rfl, by omega, by omega, hIm23, hFm23⟩
                · intro h29
                  refine zw_4 zr_121_46 rfl ?_
                  refine zw_R zr_121_48 (by decide) zm_121 (v := (0, r24)) rfl ?_
                  rw [← hQ]; exact ⟨_, rfl, by omega, by omega, hIm23, hFm23⟩
              · intro h30
                refine zw_push zr_121_27 ?_
                refine zw_R zr_121_29 (by decide) zm_121 (v := (0, (-10))) rfl ?_
                rw [← hQ]; exact ⟨_, rfl, by omega, by omega, hI0, hF0⟩

abbrev W_188 : List (Nat × Nat) := [(81, 1000)]
set_option maxHeartbeats 8000000 in
theorem th_188 {E : zE} {d : Nat} {m0 : zM} {a0 : Int} {a1 : Int} (hd : 3 ≤ d) (hI0 : zInv m0) (ha0 : 0 ≤ a0 ∧ a0 ≤ 9) (ha1 : (-1) ≤ a1 ∧ a1 ≤ 59) : zC E d 188 [(2, 69), (0, a0), (0, a1)] m0 (fun v m' => v = (9, 0) ∧ zInv m' ∧ zFr W_188 m0 m') := by
  have hF0 : zFr W_188 m0 m0 := zFr.rfl
  generalize hQ : (fun (v : zV) (m' : zM) => v = (9, 0) ∧ zInv m' ∧ zFr W_188 m0 m') = Q
  show zW E d 188 0 [(2, 69), (0, a0), (0, a1), (9, 0), (9, 0), (9, 0), (9, 0)] [] m0 Q
  refine zw_push zr_188_0 ?_
  refine zw_9 (L' := [(2, 69), (0, a0), (0, a1), (0, 0), (9, 0), (9, 0), (9, 0)]) zr_188_1 (Nat.le_of_ble_eq_true rfl) rfl ?_
  have lp2_3 : ∀ (nlp2_3 : Nat) (i1 : Int) (m2 : zM), zInv m2 → zFr W_188 m0 m2 → 0 ≤ i1 → i1 ≤ 10 → (10 - i1).toNat < nlp2_3 → zW E (d) 188 2 [(2, 69), (0, a0), (0, a1), (0, i1), (9, 0), (9, 0), (9, 0)] [] m2 Q := by
    intro nlp2_3
    induction nlp2_3 with
    | zero =>
      intros
      exact absurd (by assumption : _ < 0) (Nat.not_lt_zero _)
    | succ nlp2_3 ihlp2_3 =>
      intro i1 m2 hIm2 hFm2 li1 ui1 hmlp2_3
      refine zw_3 zr_188_2 rfl ?_
      refine zw_push zr_188_3 ?_
      refine zw_41_3 zr_188_5 ?_ ?_
      · intro h5
        refine zw_push zr_188_31 ?_
        refine zw_9 (L' := [(2, 69), (0, a0), (0, a1), (0, 0), (9, 0), (9, 0), (9, 0)]) zr_188_32 (Nat.le_of_ble_eq_true rfl) rfl ?_
        have lp33_8 : ∀ (nlp33_8 : Nat) (i6 : Int) (m7 : zM), zInv m7 → zFr W_188 m0 m7 → 0 ≤ i6 → i6 ≤ 10 → (10 - i6).toNat < nlp33_8 → zW E (d) 188 33 [(2, 69), (0, a0), (0, a1), (0, i6), (9, 0), (9, 0), (9, 0)] [] m7 Q := by
          intro nlp33_8
          induction nlp33_8 with
          | zero =>
            intros
            exact absurd (by assumption : _ < 0) (Nat.not_lt_zero _)
          | succ nlp33_8 ihlp33_8 =>
            intro i6 m7 hIm7 hFm7 li6 ui6 hmlp33_8
            refine zw_3 zr_188_33 rfl ?_
            refine zw_push zr_188_34 ?_
            refine zw_41_3 zr_188_36 ?_ ?_
            · intro h10
              refine zw_R zr_188_186 (by decide) zm_188 (v := (9, 0)) rfl ?_
              rw [← hQ]; exact ⟨rfl, hIm7, hFm7⟩
            · intro h11
              refine zw_push zr_188_39 ?_
              refine zw_10 (L' := [(2, 69), (0, a0), (0, a1), (0, i6), (0, 0), (9, 0), (9, 0)]) zr_188_40 (Nat.le_of_ble_eq_true rfl) rfl ?_
              have lp42_14 : ∀ (nlp42_14 : Nat) (i12 : Int) (m13 : zM), zInv m13 → zFr W_188 m0 m13 → 0 ≤ i12 → i12 ≤ 60 → (60 - i12).toNat < nlp42_14 → zW E (d) 188 42 [(2, 69), (0, a0), (0, a1), (0, i6), (0, i12), (9, 0), (9, 0)] [] m13 Q := by
                intro nlp42_14
                induction nlp42_14 with
                | zero =>
                  intros
                  exact absurd (by assumption : _ < 0) (Nat.not_lt_zero _)
                | succ nlp42_14 ihlp42_14 =>
                  intro i12 m13 hIm13 hFm13 li12 ui12 hmlp42_14
                  refine zw_4 zr_188_42 rfl ?_
                  refine zw_7 zr_188_44 rfl ?_
                  refine zw_C zr_188_45 (Or.inl rfl) zm_142 rfl rfl ⟨Nat.le_of_ble_eq_true rfl, Nat.le_of_ble_eq_true rfl, Nat.le_of_ble_eq_true rfl, rfl, by decide⟩ (by omega) (P := (fun v m' => zW E (d) 188 48 [(2, 69), (0, a0), (0, a1), (0, i6), (0, i12), (9, 0), (9, 0)] (if v.1 = 9 then [(0, i12)] else v :: [(0, i12)]) m' Q)) ?_ (fun _ _ h => h)
                  generalize hQ1 : (fun v m' => zW E (d) 188 48 [(2, 69), (0, a0), (0, a1), (0, i6), (0, i12), (9, 0), (9, 0)] (if v.1 = 9 then [(0, i12)] else v :: [(0, i12)]) m' Q) = Q1
                  show zW E (d - 1) 142 0 [(2, 69)] [] m13 Q1
                  refine zw_7 zr_142_0 rfl ?_
                  refine zw_46r (s := 70) zr_142_1 rfl rfl rfl rfl ?_
                  refine zw_push zr_142_4 ?_
                  obtain ⟨f16, ef16⟩ : ∃ v, m13 70 823 = v := ⟨_, rfl⟩
                  have bf16 : 0 ≤ m13 70 823 ∧ m13 70 823 ≤ 60 := ib_70_meetings hIm13 (by omega)
                  rw [ef16] at bf16
                  refine zw_48k (c := 70) (len := 826) zr_142_7 rfl rfl (by omega) (by omega) (show (823 : Int).toNat = 823 by omega) ef16 ?_
                  refine zw_R zr_142_8 (by decide) zm_142 (v := (0, f16)) rfl ?_
                  rw [← hQ1]
                  show zW E (d) 188 48 [(2, 69), (0, a0), (0, a1), (0, i6), (0, i12), (9, 0), (9, 0)] [(0, f16), (0, i12)] m13 Q
                  refine zw_41_3 zr_188_48 ?_ ?_
                  · intro h17
                    refine zw_15 (c := 1) (L' := [(2, 69), (0, a0), (0, a1), (0, (i6 + 1)), (0, i12), (9, 0), (9, 0)]) zr_188_180 rfl (by decide) (by omega) rfl ?_
                    refine zw_42 zr_188_183 ?_
                    exact zw_less (L := [(2, 69), (0, a0), (0, a1), (0, (i6 + 1)), (9, 0), (9, 0), (9, 0)]) ⟨Or.inr rfl, Or.inr rfl, Or.inr rfl, Or.inr rfl, Or.inl rfl, Or.inl rfl, Or.inl rfl, trivial⟩ (ihlp33_8 ((i6 + 1)) m13 hIm13 hFm13   (by omega) (by omega) (by omega))
                  · intro h18
                    refine zw_7 zr_188_51 rfl ?_
                    refine zw_4 zr_188_52 rfl ?_
                    refine zw_C zr_188_54 (Or.inl rfl) zm_181 rfl rfl ⟨Nat.le_of_ble_eq_true rfl, Nat.le_of_ble_eq_true rfl, Nat.le_of_ble_eq_true rfl, rfl, by decide⟩ (by omega) (P := (fun v m' => zW E (d) 188 57 [(2, 69), (0, a0), (0, a1), (0, i6), (0, i12), (9, 0), (9, 0)] (if v.1 = 9 then [] else v :: []) m' Q)) ?_ (fun _ _ h => h)
                    generalize hQ1 : (fun v m' => zW E (d) 188 57 [(2, 69), (0, a0), (0, a1), (0, i6), (0, i12), (9, 0), (9, 0)] (if v.1 = 9 then [] else v :: []) m' Q) = Q1
                    show zW E (d - 1) 181 0 [(2, 69), (0, i12)] [] m13 Q1
                    refine zw_7 zr_181_0 rfl ?_
                    refine zw_3 zr_181_1 rfl ?_
                    refine zw_push zr_181_2 ?_
                    refine zw_C zr_181_3 (Or.inl rfl) zm_144 rfl rfl ⟨Nat.le_of_ble_eq_true rfl, Nat.le_of_ble_eq_true rfl, Nat.le_of_ble_eq_true rfl, rfl, by decide⟩ (by omega) (P := (fun v m' => zW E (d - 1) 181 6 [(2, 69), (0, i12)] (if v.1 = 9 then [] else v :: []) m' Q1)) ?_ (fun _ _ h => h)
                    generalize hQ2 : (fun v m' => zW E (d - 1) 181 6 [(2, 69), (0, i12)] (if v.1 = 9 then [] else v :: []) m' Q1) = Q2
                    show zW E (d - 1 - 1) 144 0 [(2, 69), (0, i12), (0, 4)] [] m13 Q2
                    refine zw_7 zr_144_0 rfl ?_
                    refine zw_46r (s := 70) zr_144_1 rfl rfl rfl rfl ?_
                    refine zw_push zr_144_4 ?_
                    refine zw_push zr_144_6 ?_
                    refine zw_3 zr_144_8 rfl ?_
                    refine zw_18 zr_144_9 (by omega) ?_
                    refine zw_16 zr_144_10 (by omega) ?_
                    refine zw_3 zr_144_11 rfl ?_
                    refine zw_16 zr_144_12 (by omega) ?_
                    refine zw_48 (c := 70) (len := 826) zr_144_13 rfl rfl (by omega) (by omega) ?_
                    intro x19 ex19
                    have bx19 := ib_70_m4 hIm13 (k := (((90 + (6 * i12)) + 4)).toNat) (by omega)
                    rw [← ex19] at bx19
                    clear ex19
                    refine zw_R zr_144_14 (by decide) zm_144 (v := (0, x19)) rfl ?_
                    rw [← hQ2]
                    show zW E (d - 1) 181 6 [(2, 69), (0, i12)] [(0, x19)] m13 Q1
                    refine zw_40_4 zr_181_6 ?_ ?_
                    · intro h20
                      refine zw_push zr_181_22 ?_
                      refine zw_R zr_181_23 (by decide) zm_181 (v := (0, 0)) (zRetB (by omega)) ?_
                      rw [← hQ1]
                      show zW E (d) 188 57 [(2, 69), (0, a0), (0, a1), (0, i6), (0, i12), (9, 0), (9, 0)] [(0, 0)] m13 Q
                      refine zw_40_1 zr_188_57 ?_ ?_
                      · intro h21
                        refine zw_15 (c := 1) (L' := [(2, 69), (0, a0), (0, a1), (0, i6), (0, (i12 + 1)), (9, 0), (9, 0)]) zr_188_174 rfl (by decide) (by omega) rfl ?_
                        refine zw_42 zr_188_177 ?_
                        exact zw_less (L := [(2, 69), (0, a0), (0, a1), (0, i6), (0, (i12 + 1)), (9, 0), (9, 0)]) ⟨Or.inr rfl, Or.inr rfl, Or.inr rfl, Or.inr rfl, Or.inr rfl, Or.inl rfl, Or.inl rfl, trivial⟩ (ihlp42_14 ((i12 + 1)) m13 hIm13 hFm13   (by omega) (by omega) (by omega))
                      · intro h22; omega
                    · intro h23
                      refine zw_7 zr_181_9 rfl ?_
                      refine zw_3 zr_181_10 rfl ?_
                      refine zw_push zr_181_11 ?_
                      refine zw_C zr_181_12 (Or.inl rfl) zm_144 rfl rfl ⟨Nat.le_of_ble_eq_true rfl, Nat.le_of_ble_eq_true rfl, Nat.le_of_ble_eq_true rfl, rfl, by decide⟩ (by omega) (P := (fun v m' => zW E (d - 1) 181 15 [(2, 69), (0, i12)] (if v.1 = 9 then [] else v :: []) m' Q1)) ?_ (fun _ _ h => h)
                      generalize hQ2 : (fun v m' => zW E (d - 1) 181 15 [(2, 69), (0, i12)] (if v.1 = 9 then [] else v :: []) m' Q1) = Q2
                      show zW E (d - 1 - 1) 144 0 [(2, 69), (0, i12), (0, 5)] [] m13 Q2
                      refine zw_7 zr_144_0 rfl ?_
                      refine zw_46r (s := 70) zr_144_1 rfl rfl rfl rfl ?_
                      refine zw_push zr_144_4 ?_
                      refine zw_push zr_144_6 ?_
                      refine zw_3 zr_144_8 rfl ?_
                      refine zw_18 zr_144_9 (by omega) ?_
                      refine zw_16 zr_144_10 (by omega) ?_
                      refine zw_3 zr_144_11 rfl ?_
                      refine zw_16 zr_144_12 (by omega) ?_
                      refine zw_48 (c := 70) (len := 826) zr_144_13 rfl rfl (by omega) (by omega) ?_
                      intro x24 ex24
                      have bx24 := ib_70_m5 hIm13 (k := (((90 + (6 * i12)) + 5)).toNat) (by omega)
                      rw [← ex24] at bx24
                      clear ex24
                      refine zw_R zr_144_14 (by decide) zm_144 (v := (0, x24)) rfl ?_
                      rw [← hQ2]
                      show zW E (d - 1) 181 15 [(2, 69), (0, i12)] [(0, x24)] m13 Q1
                      refine zw_40_4 zr_181_15 ?_ ?_
                      · intro h25
                        refine zw_push zr_181_22 ?_
                        refine zw_R zr_181_23 (by decide) zm_181 (v := (0, 0)) (zRetB (by omega)) ?_
                        rw [← hQ1]
                        show zW E (d) 188 57 [(2, 69), (0, a0), (0, a1), (0, i6), (0, i12), (9, 0), (9, 0)] [(0, 0)] m13 Q
                        refine zw_40_1 zr_188_57 ?_ ?_
                        · intro h26
                          refine zw_15 (c := 1) (L' := [(2, 69), (0, a0), (0, a1), (0, i6), (0, (i12 + 1)), (9, 0), (9, 0)]) zr_188_174 rfl (by decide) (by omega) rfl ?_
                          refine zw_42 zr_188_177 ?_
                          exact zw_less (L := [(2, 69), (0, a0), (0, a1), (0, i6), (0, (i12 + 1)), (9, 0), (9, 0)]) ⟨Or.inr rfl, Or.inr rfl, Or.inr rfl, Or.inr rfl, Or.inr rfl, Or.inl rfl, Or.inl rfl, trivial⟩ (ihlp42_14 ((i12 + 1)) m13 hIm13 hFm13   (by omega) (by omega) (by omega))
                        · intro h27; omega
                      · intro h28
                        refine zw_push zr_181_18 ?_
                        refine zw_42 zr_181_19 ?_
                        refine zw_R zr_181_23 (by decide) zm_181 (v := (0, 1)) (zRetB (by omega)) ?_
                        rw [← hQ1]
                        show zW E (d) 188 57 [(2, 69), (0, a0), (0, a1), (0, i6), (0, i12), (9, 0), (9, 0)] [(0, 1)] m13 Q
                        refine zw_40_1 zr_188_57 ?_ ?_
                        · intro h29; omega
                        · intro h30
                          refine zw_4 zr_188_60 rfl ?_
                          refine zw_3 zr_188_62 rfl ?_
                          refine zw_41_1 zr_188_63 ?_ ?_
                          · intro h31
                            refine zw_15 (c := 1) (L' := [(2, 69), (0, a0), (0, a1), (0, i6), (0, (i12 + 1)), (9, 0), (9, 0)]) zr_188_174 rfl (by decide) (by omega) rfl ?_
                            refine zw_42 zr_188_177 ?_
                            exact zw_less (L := [(2, 69), (0, a0), (0, a1), (0, i6), (0, (i12 + 1)), (9, 0), (9, 0)]) ⟨Or.inr rfl, Or.inr rfl, Or.inr rfl, Or.inr rfl, Or.inr rfl, Or.inl rfl, Or.inl rfl, trivial⟩ (ihlp42_14 ((i12 + 1)) m13 hIm13 hFm13   (by omega) (by omega) (by omega))
                          · intro h32
                            refine zw_7 zr_188_66 rfl ?_
                            refine zw_4 zr_188_67 rfl ?_
                            refine zw_push zr_188_69 ?_
                            refine zw_C zr_188_70 (Or.inl rfl) zm_144 rfl rfl ⟨Nat.le_of_ble_eq_true rfl, Nat.le_of_ble_eq_true rfl, Nat.le_of_ble_eq_true rfl, rfl, by decide⟩ (by omega) (P := (fun v m' => zW E (d) 188 73 [(2, 69), (0, a0), (0, a1), (0, i6), (0, i12), (9, 0), (9, 0)] (if v.1 = 9 then [] else v :: []) m' Q)) ?_ (fun _ _ h => h)
                            generalize hQ1 : (fun v m' => zW E (d) 188 73 [(2, 69), (0, a0), (0, a1), (0, i6), (0, i12), (9, 0), (9, 0)] (if v.1 = 9 then [] else v :: []) m' Q) = Q1
                            show zW E (d - 1) 144 0 [(2, 69), (0, i12), (0, 1)] [] m13 Q1
                            refine zw_7 zr_144_0 rfl ?_
                            refine zw_46r (s := 70) zr_144_1 rfl rfl rfl rfl ?_
                            refine zw_push zr_144_4 ?_
                            refine zw_push zr_144_6 ?_
                            refine zw_3 zr_144_8 rfl ?_
                            refine zw_18 zr_144_9 (by omega) ?_
                            refine zw_16 zr_144_10 (by omega) ?_
                            refine zw_3 zr_144_11 rfl ?_
                            refine zw_16 zr_144_12 (by omega) ?_
                            refine zw_48 (c := 70) (len := 826) zr_144_13 rfl rfl (by omega) (by omega) ?_
                            intro x33 ex33
                            have bx33 := ib_70_m1 hIm13 (k := (((90 + (6 * i12)) + 1)).toNat) (by omega)
                            rw [← ex33] at bx33
                            clear ex33
                            refine zw_R zr_144_14 (by decide) zm_144 (v := (0, x33)) rfl ?_
                            rw [← hQ1]
                            show zW E (d) 188 73 [(2, 69), (0, a0), (0, a1), (0, i6), (0, i12), (9, 0), (9, 0)] [(0, x33)] m13 Q
                            refine zw_10 (L' := [(2, 69), (0, a0), (0, a1), (0, i6), (0, i12), (0, x33), (9, 0)]) zr_188_73 (Nat.le_of_ble_eq_true rfl) rfl ?_
                            refine zw_7 zr_188_75 rfl ?_
                            refine zw_4 zr_188_76 rfl ?_
                            refine zw_push zr_188_78 ?_
                            refine zw_C zr_188_79 (Or.inl rfl) zm_144 rfl rfl ⟨Nat.le_of_ble_eq_true rfl, Nat.le_of_ble_eq_true rfl, Nat.le_of_ble_eq_true rfl, rfl, by decide⟩ (by omega) (P := (fun v m' => zW E (d) 188 82 [(2, 69), (0, a0), (0, a1), (0, i6), (0, i12), (0, x33), (9, 0)] (if v.1 = 9 then [] else v :: []) m' Q)) ?_ (fun _ _ h => h)
                            generalize hQ1 : (fun v m' => zW E (d) 188 82 [(2, 69), (0, a0), (0, a1), (0, i6), (0, i12), (0, x33), (9, 0)] (if v.1 = 9 then [] else v :: []) m' Q) = Q1
                            show zW E (d - 1) 144 0 [(2, 69), (0, i12), (0, 2)] [] m13 Q1
                            refine zw_7 zr_144_0 rfl ?_
                            refine zw_46r (s := 70) zr_144_1 rfl rfl rfl rfl ?_
                            refine zw_push zr_144_4 ?_
                            refine zw_push zr_144_6 ?_
                            refine zw_3 zr_144_8 rfl ?_
                            refine zw_18 zr_144_9 (by omega) ?_
                            refine zw_16 zr_144_10 (by omega) ?_
                            refine zw_3 zr_144_11 rfl ?_
                            refine zw_16 zr_144_12 (by omega) ?_
                            refine zw_48 (c := 70) (len := 826) zr_144_13 rfl rfl (by omega) (by omega) ?_
                            intro x34 ex34
                            have bx34 := ib_70_m2 hIm13 (k := (((90 + (6 * i12)) + 2)).toNat) (by omega)
                            rw [← ex34] at bx34
                            clear ex34
                            refine zw_R zr_144_14 (by decide) zm_144 (v := (0, x34)) rfl ?_
                            rw [← hQ1]
                            show zW E (d) 188 82 [(2, 69), (0, a0), (0, a1), (0, i6), (0, i12), (0, x33), (9, 0)] [(0, x34)] m13 Q
                            refine zw_10 (L' := [(2, 69), (0, a0), (0, a1), (0, i6), (0, i12), (0, x33), (0, x34)]) zr_188_82 (Nat.le_of_ble_eq_true rfl) rfl ?_
                            refine zw_7 zr_188_84 rfl ?_
                            refine zw_46r (s := 81) zr_188_85 rfl rfl rfl rfl ?_
                            refine zw_4 zr_188_88 rfl ?_
                            refine zw_7 zr_188_90 rfl ?_
                            refine zw_46r (s := 81) zr_188_91 rfl rfl rfl rfl ?_
                            refine zw_4 zr_188_94 rfl ?_
                            refine zw_48 (c := 81) (len := 10) zr_188_96 rfl rfl (by omega) (by omega) ?_
                            intro x35 ex35
                            have bx35 := hIm13.ra (c := 81) (len := 10) (k := (x34).toNat) rfl (by omega)
                            rw [← ex35] at bx35
                            refine zw_push zr_188_97 ?_
                            refine zw_16h zr_188_98 ?_
                            intro x36 hx36a hx36b
                            refine zw_7 zr_188_99 rfl ?_
                            refine zw_46r (s := 81) zr_188_100 rfl rfl rfl rfl ?_
                            refine zw_4 zr_188_103 rfl ?_
                            refine zw_48 (c := 81) (len := 10) zr_188_105 rfl rfl (by omega) (by omega) ?_
                            intro x37 ex37
                            have bx37 := hIm13.ra (c := 81) (len := 10) (k := (x33).toNat) rfl (by omega)
                            rw [← ex37] at bx37
                            refine zw_41_3 zr_188_106 ?_ ?_
                            · intro h38
                              refine zw_7 zr_188_121 rfl ?_
                              refine zw_46r (s := 81) zr_188_122 rfl rfl rfl rfl ?_
                              refine zw_4 zr_188_125 rfl ?_
                              refine zw_48k (c := 81) (len := 10) zr_188_127 rfl rfl (by omega) (by omega) rfl ex37.symm ?_
                              refine zw_49 (c := 81) (len := 10) zr_188_128 rfl rfl (by omega) (by omega) ?_
                              intro m39 em39
                              have hIm39 : zInv m39 := by rw [em39]; exact hIm13.any (by omega) rfl (by decide) (by decide)
                              have hFm39 : zFr W_188 m0 m39 := by rw [em39]; exact hFm13.any rfl
                              have km39_70_823 : m39 70 823 = f16 := by rw [em39, zUp_ne (by omega)]; exact ef16
                              clear em39
                              refine zw_7 zr_188_129 rfl ?_
                              refine zw_46r (s := 81) zr_188_130 rfl rfl rfl rfl ?_
                              refine zw_4 zr_188_133 rfl ?_
                              refine zw_7 zr_188_135 rfl ?_
                              refine zw_46r (s := 81) zr_188_136 rfl rfl rfl rfl ?_
                              refine zw_4 zr_188_139 rfl ?_
                              refine zw_48 (c := 81) (len := 10) zr_188_141 rfl rfl (by omega) (by omega) ?_
                              intro x40 ex40
                              have bx40 := hIm39.ra (c := 81) (len := 10) (k := (x33).toNat) rfl (by omega)
                              rw [← ex40] at bx40
                              refine zw_push zr_188_142 ?_
                              refine zw_16h zr_188_143 ?_
                              intro x41 hx41a hx41b
                              refine zw_7 zr_188_144 rfl ?_
                              refine zw_46r (s := 81) zr_188_145 rfl rfl rfl rfl ?_
                              refine zw_4 zr_188_148 rfl ?_
                              refine zw_48 (c := 81) (len := 10) zr_188_150 rfl rfl (by omega) (by omega) ?_
                              intro x42 ex42
                              have bx42 := hIm39.ra (c := 81) (len := 10) (k := (x34).toNat) rfl (by omega)
                              rw [← ex42] at bx42
                              refine zw_41_3 zr_188_151 ?_ ?_
                              · intro h43
                                refine zw_7 zr_188_166 rfl ?_
                                refine zw_46r (s := 81) zr_188_167 rfl rfl rfl rfl ?_
                                refine zw_4 zr_188_170 rfl ?_
                                refine zw_48k (c := 81) (len := 10) zr_188_172 rfl rfl (by omega) (by omega) rfl ex42.symm ?_
                                refine zw_49 (c := 81) (len := 10) zr_188_173 rfl rfl (by omega) (by omega) ?_
                                intro m44 em44
                                have hIm44 : zInv m44 := by rw [em44]; exact hIm39.any (by omega) rfl (by decide) (by decide)
                                have hFm44 : zFr W_188 m0 m44 := by rw [em44]; exact hFm39.any rfl
                                have km44_70_823 : m44 70 823 = f16 := by rw [em44, zUp_ne (by omega)]; exact km39_70_823
                                clear em44
                                refine zw_15 (c := 1) (L' := [(2, 69), (0, a0), (0, a1), (0, i6), (0, (i12 + 1)), (0, x33), (0, x34)]) zr_188_174 rfl (by decide) (by omega) rfl ?_
                                refine zw_42 zr_188_177 ?_
                                exact zw_less (L := [(2, 69), (0, a0), (0, a1), (0, i6), (0, (i12 + 1)), (9, 0), (9, 0)]) ⟨Or.inr rfl, Or.inr rfl, Or.inr rfl, Or.inr rfl, Or.inr rfl, Or.inl rfl, Or.inl rfl, trivial⟩ (ihlp42_14 ((i12 + 1)) m44 hIm44 hFm44   (by omega) (by omega) (by omega))
                              · intro h45
                                refine zw_7 zr_188_154 rfl ?_
                                refine zw_46r (s := 81) zr_188_155 rfl rfl rfl rfl ?_
                                refine zw_4 zr_188_158 rfl ?_
                                refine zw_48k (c := 81) (len := 10) zr_188_160 rfl rfl (by omega) (by omega) rfl ex40.symm ?_
                                refine zw_push zr_188_161 ?_
                                refine zw_16h zr_188_162 ?_
                                intro x46 hx46a hx46b
                                refine zw_42 zr_188_163 ?_
                                refine zw_49 (c := 81) (len := 10) zr_188_173 rfl rfl (by omega) (by omega) ?_
                                intro m47 em47
                                have hIm47 : zInv m47 := by rw [em47]; exact hIm39.any (by omega) rfl (by decide) (by decide)
                                have hFm47 : zFr W_188 m0 m47 := by rw [em47]; exact hFm39.any rfl
                                have km47_70_823 : m47 70 823 = f16 := by rw [em47, zUp_ne (by omega)]; exact km39_70_823
                                clear em47
                                refine zw_15 (c := 1) (L' := [(2, 69), (0, a0), (0, a1), (0, i6), (0, (i12 + 1)), (0, x33), (0, x34)]) zr_188_174 rfl (by decide) (by omega) rfl ?_
                                refine zw_42 zr_188_177 ?_
                                exact zw_less (L := [(2, 69), (0, a0), (0, a1), (0, i6), (0, (i12 + 1)), (9, 0), (9, 0)]) ⟨Or.inr rfl, Or.inr rfl, Or.inr rfl, Or.inr rfl, Or.inr rfl, Or.inl rfl, Or.inl rfl, trivial⟩ (ihlp42_14 ((i12 + 1)) m47 hIm47 hFm47   (by omega) (by omega) (by omega))
                            · intro h48
                              refine zw_7 zr_188_109 rfl ?_
                              refine zw_46r (s := 81) zr_188_110 rfl rfl rfl rfl ?_
                              refine zw_4 zr_188_113 rfl ?_
                              refine zw_48k (c := 81) (len := 10) zr_188_115 rfl rfl (by omega) (by omega) rfl ex35.symm ?_
                              refine zw_push zr_188_116 ?_
                              refine zw_16h zr_188_117 ?_
                              intro x49 hx49a hx49b
                              refine zw_42 zr_188_118 ?_
                              refine zw_49 (c := 81) (len := 10) zr_188_128 rfl rfl (by omega) (by omega) ?_
                              intro m50 em50
                              have hIm50 : zInv m50 := by rw [em50]; exact hIm13.any (by omega) rfl (by decide) (by decide)
                              have hFm50 : zFr W_188 m0 m50 := by rw [em50]; exact hFm13.any rfl
                              have km50_70_823 : m50 70 823 = f16 := by rw [em50, zUp_ne (by omega)]; exact ef16
                              clear em50
                              refine zw_7 zr_188_129 rfl ?_
                              refine zw_46r (s := 81) zr_188_130 rfl rfl rfl rfl ?_
                              refine zw_4 zr_188_133 rfl ?_
                              refine zw_7 zr_188_135 rfl ?_
                              refine zw_46r (s := 81) zr_188_136 rfl rfl rfl rfl ?_
                              refine zw_4 zr_188_139 rfl ?_
                              refine zw_48 (c := 81) (len := 10) zr_188_141 rfl rfl (by omega) (by omega) ?_
                              intro x51 ex51
                              have bx51 := hIm50.ra (c := 81) (len := 10) (k := (x33).toNat) rfl (by omega)
                              rw [← ex51] at bx51
                              refine zw_push zr_188_142 ?_
                              refine zw_16h zr_188_143 ?_
                              intro x52 hx52a hx52b
                              refine zw_7 zr_188_144 rfl ?_
                              refine zw_46r (s := 81) zr_188_145 rfl rfl rfl rfl ?_
                              refine zw_4 zr_188_148 rfl ?_
                              refine zw_48 (c := 81) (len := 10) zr_188_150 rfl rfl (by omega) (by omega) ?_
                              intro x53 ex53
                              have bx53 := hIm50.ra (c := 81) (len := 10) (k := (x34).toNat) rfl (by omega)
                              rw [← ex53] at bx53
                              refine zw_41_3 zr_188_151 ?_ ?_
                              · intro h54
                                refine zw_7 zr_188_166 rfl ?_
                                refine zw_46r (s := 81) zr_188_167 rfl rfl rfl rfl ?_
                                refine zw_4 zr_188_170 rfl ?_
                                refine zw_48k (c := 81) (len := 10) zr_188_172 rfl rfl (by omega) (by omega) rfl ex53.symm ?_
                                refine zw_49 (c := 81) (len := 10) zr_188_173 rfl rfl (by omega) (by omega) ?_
                                intro m55 em55
                                have hIm55 : zInv m55 := by rw [em55]; exact hIm50.any (by omega) rfl (by decide) (by decide)
                                have hFm55 : zFr W_188 m0 m55 := by rw [em55]; exact hFm50.any rfl
                                have km55_70_823 : m55 70 823 = f16 := by rw [em55, zUp_ne (by omega)]; exact km50_70_823
                                clear em55
                                refine zw_15 (c := 1) (L' := [(2, 69), (0, a0), (0, a1), (0, i6), (0, (i12 + 1)), (0, x33), (0, x34)]) zr_188_174 rfl (by decide) (by omega) rfl ?_
                                refine zw_42 zr_188_177 ?_
                                exact zw_less (L := [(2, 69), (0, a0), (0, a1), (0, i6), (0, (i12 + 1)), (9, 0), (9, 0)]) ⟨Or.inr rfl, Or.inr rfl, Or.inr rfl, Or.inr rfl, Or.inr rfl, Or.inl rfl, Or.inl rfl, trivial⟩ (ihlp42_14 ((i12 + 1)) m55 hIm55 hFm55   (by omega) (by omega) (by omega))
                              · intro h56
                                refine zw_7 zr_188_154 rfl ?_
                                refine zw_46r (s := 81) zr_188_155 rfl rfl rfl rfl ?_
                                refine zw_4 zr_188_158 rfl ?_
                                refine zw_48k (c := 81) (len := 10) zr_188_160 rfl rfl (by omega) (by omega) rfl ex51.symm ?_
                                refine zw_push zr_188_161 ?_
                                refine zw_16h zr_188_162 ?_
                                intro x57 hx57a hx57b
                                refine zw_42 zr_188_163 ?_
                                refine zw_49 (c := 81) (len := 10) zr_188_173 rfl rfl (by omega) (by omega) ?_
                                intro m58 em58
                                have hIm58 : zInv m58 := by rw [em58]; exact hIm50.any (by omega) rfl (by decide) (by decide)
                                have hFm58 : zFr W_188 m0 m58 := by rw [em58]; exact hFm50.any rfl
                                have km58_70_823 : m58 70 823 = f16 := by rw [em58, zUp_ne (by omega)]; exact km50_70_823
                                clear em58
                                refine zw_15 (c := 1) (L' := [(2, 69), (0, a0), (0, a1), (0, i6), (0, (i12 + 1)), (0, x33), (0, x34)]) zr_188_174 rfl (by decide) (by omega) rfl ?_
                                refine zw_42 zr_188_177 ?_
                                exact zw_less (L := [(2, 69), (0, a0), (0, a1), (0, i6), (0, (i12 + 1)), (9, 0), (9, 0)]) ⟨Or.inr rfl, Or.inr rfl, Or.inr rfl, Or.inr rfl, Or.inr rfl, Or.inl rfl, Or.inl rfl, trivial⟩ (ihlp42_14 ((i12 + 1)) m58 hIm58 hFm58   (by omega) (by omega) (by omega))
              exact lp42_14 _ (0) m7 hIm7 hFm7   (by omega) (by omega) (Nat.lt_succ_self _)
        exact lp33_8 _ (0) m2 hIm2 hFm2   (by omega) (by omega) (Nat.lt_succ_self _)
      · intro h59
        refine zw_7 zr_188_8 rfl ?_
        refine zw_46r (s := 81) zr_188_9 rfl rfl rfl rfl ?_
        refine zw_3 zr_188_12 rfl ?_
        refine zw_3 zr_188_13 rfl ?_
        refine zw_3 zr_188_14 rfl ?_
        refine zw_41_4 zr_188_15 ?_ ?_
        · intro h60
          refine zw_push zr_188_22 ?_
          refine zw_49 (c := 81) (len := 10) zr_188_24 rfl rfl (by omega) (by omega) ?_
          intro m61 em61
          have hIm61 : zInv m61 := by rw [em61]; exact hIm2.any (by omega) rfl (by decide) (by decide)
          have hFm61 : zFr W_188 m0 m61 := by rw [em61]; exact hFm2.any rfl
          clear em61
          refine zw_15 (c := 1) (L' := [(2, 69), (0, a0), (0, a1), (0, (i1 + 1)), (9, 0), (9, 0), (9, 0)]) zr_188_25 rfl (by decide) (by omega) rfl ?_
          refine zw_42 zr_188_28 ?_
          exact zw_less (L := [(2, 69), (0, a0), (0, a1), (0, (i1 + 1)), (9, 0), (9, 0), (9, 0)]) ⟨Or.inr rfl, Or.inr rfl, Or.inr rfl, Or.inr rfl, Or.inl rfl, Or.inl rfl, Or.inl rfl, trivial⟩ (ihlp2_3 ((i1 + 1)) m61 hIm61 hFm61   (by omega) (by omega) (by omega))
        · intro h62
          refine zw_push zr_188_18 ?_
          refine zw_42 zr_188_19 ?_
          refine zw_49 (c := 81) (len := 10) zr_188_24 rfl rfl (by omega) (by omega) ?_
          intro m63 em63
          have hIm63 : zInv m63 := by rw [em63]; exact hIm2.any (by omega) rfl (by decide) (by decide)
          have hFm63 : zFr W_188 m0 m63 := by rw [em63]; exact hFm2.any rfl
          clear em63
          refine zw_15 (c := 1) (L' := [(2, 69), (0, a0), (0, a1), (0, (i1 + 1)), (9, 0), (9, 0), (9, 0)]) zr_188_25 rfl (by decide) (by omega) rfl ?_
          refine zw_42 zr_188_28 ?_
          exact zw_less (L := [(2, 69), (0, a0), (0, a1), (0, (i1 + 1)), (9, 0), (9, 0), (9, 0)]) ⟨Or.inr rfl, Or.inr rfl, Or.inr rfl, Or.inr rfl, Or.inl rfl, Or.inl rfl, Or.inl rfl, trivial⟩ (ihlp2_3 ((i1 + 1)) m63 hIm63 hFm63   (by omega) (by omega) (by omega))
  exact lp2_3 _ (0) m0 hI0 hF0   (by omega) (by omega) (Nat.lt_succ_self _)

abbrev W_191 : List (Nat × Nat) := [(81, 1000)]
set_option maxHeartbeats 8000000 in
theorem th_191 {E : zE} {d : Nat} {m0 : zM} {a0 : Int} {a1 : Int} {a2 : Int} (hd : 4 ≤ d) (hI0 : zInv m0) (ha0 : (-2147483648) ≤ a0 ∧ a0 ≤ 2147483647) (ha1 : (-2147483648) ≤ a1 ∧ a1 ≤ 2147483647) (ha2 : (-2147483648) ≤ a2 ∧ a2 ≤ 2147483647) : zC E d 191 [(2, 69), (0, a0), (0, a1), (0, a2)] m0 (fun v m' => ∃ r : Int, v = (0, r) ∧ (-2147483648) ≤ r ∧ r ≤ 99999999 ∧ zInv m' ∧ zFr W_191 m0 m') := by
  have hF0 : zFr W_191 m0 m0 := zFr.rfl
  generalize hQ : (fun (v : zV) (m' : zM) => ∃ r : Int, v = (0, r) ∧ (-2147483648) ≤ r ∧ r ≤ 99999999 ∧ zInv m' ∧ zFr W_191 m0 m') = Q
  show zW E d 191 0 [(2, 69), (0, a0), (0, a1), (0, a2), (9, 0), (9, 0), (9, 0), (9, 0), (9, 0), (9, 0)] [] m0 Q
  refine zw_7 zr_191_0 rfl ?_
  refine zw_3 zr_191_1 rfl ?_
  refine zw_C zr_191_2 (Or.inl rfl) zm_143 rfl rfl ⟨Nat.le_of_ble_eq_true rfl, Nat.le_of_ble_eq_true rfl, Nat.le_of_ble_eq_true rfl, rfl, by decide⟩ (by omega) (P := (fun v m' => zW E (d) 191 5 [(2, 69), (0, a0), (0, a1), (0, a2), (9, 0), (9, 0), (9, 0), (9, 0), (9, 0), (9, 0)] (if v.1 = 9 then [] else v :: []) m' Q)) ?_ (fun _ _ h => h)
  generalize hQ1 : (fun v m' => zW E (d) 191 5 [(2, 69), (0, a0), (0, a1), (0, a2), (9, 0), (9, 0), (9, 0), (9, 0), (9, 0), (9, 0)] (if v.1 = 9 then [] else v :: []) m' Q) = Q1
  show zW E (d - 1) 143 0 [(2, 69), (0, a0)] [] m0 Q1
  refine zw_3 zr_143_0 rfl ?_
  refine zw_36 zr_143_1 ?_
  refine zw_push zr_143_2 ?_
  refine zw_7 zr_143_3 rfl ?_
  refine zw_C zr_143_4 (Or.inl rfl) zm_141 rfl rfl ⟨Nat.le_of_ble_eq_true rfl, Nat.le_of_ble_eq_true rfl, Nat.le_of_ble_eq_true rfl, rfl, by decide⟩ (by omega) (P := (fun v m' => zW E (d - 1) 143 7 [(2, 69), (0, a0)] (if v.1 = 9 then [(1, 0), (1, a0)] else v :: [(1, 0), (1, a0)]) m' Q1)) ?_ (fun _ _ h => h)
  generalize hQ2 : (fun v m' => zW E (d - 1) 143 7 [(2, 69), (0, a0)] (if v.1 = 9 then [(1, 0), (1, a0)] else v :: [(1, 0), (1, a0)]) m' Q1) = Q2
  show zW E (d - 1 - 1) 141 0 [(2, 69)] [] m0 Q2
  refine zw_7 zr_141_0 rfl ?_
  refine zw_46r (s := 70) zr_141_1 rfl rfl rfl rfl ?_
  refine zw_push zr_141_4 ?_
  obtain ⟨f1, ef1⟩ : ∃ v, m0 70 822 = v := ⟨_, rfl⟩
  have bf1 : 0 ≤ m0 70 822 ∧ m0 70 822 ≤ 10 := ib_70_players hI0 (by omega)
  rw [ef1] at bf1
  refine zw_48k (c := 70) (len := 826) zr_141_7 rfl rfl (by omega) (by omega) (show (822 : Int).toNat = 822 by omega) ef1 ?_
  refine zw_R zr_141_8 (by decide) zm_141 (v := (0, f1)) rfl ?_
  rw [← hQ2]
  show zW E (d - 1) 143 7 [(2, 69), (0, a0)] [(0, f1), (1, 0), (1, a0)] m0 Q1
  refine zw_push zr_143_7 ?_
  refine zw_17 zr_143_8 (by omega) ?_
  refine zw_36 zr_143_9 ?_
  refine zw_C zr_143_10 (Or.inr rfl) zm_140 rfl rfl ⟨Nat.le_of_ble_eq_true rfl, Nat.le_of_ble_eq_true rfl, Nat.le_of_ble_eq_true rfl, rfl, by decide⟩ (by omega) (P := (fun v m' => zW E (d - 1) 143 13 [(2, 69), (0, a0)] (if v.1 = 9 then [] else v :: []) m' Q1)) ?_ (fun _ _ h => h)
  generalize hQ2 : (fun v m' => zW E (d - 1) 143 13 [(2, 69), (0, a0)] (if v.1 = 9 then [] else v :: []) m' Q1) = Q2
  show zW E (d - 1 - 1) 140 0 [(1, a0), (9, 0), (1, 0), (9, 0), (1, (f1 - 1)), (9, 0)] [] m0 Q2
  refine zw_5 zr_140_0 rfl ?_
  refine zw_5 zr_140_1 rfl ?_
  refine zw_39_0 zr_140_2 zr_140_3 ?_ ?_
  · intro h2
    refine zw_push zr_140_17 ?_
    refine zw_R zr_140_18 (by decide) zm_140 (v := (0, 0)) (zRetB (by omega)) ?_
    rw [← hQ2]
    show zW E (d - 1) 143 13 [(2, 69), (0, a0)] [(0, 0)] m0 Q1
    refine zw_R zr_143_13 (by decide) zm_143 (v := (0, 0)) (zRetB (by omega)) ?_
    rw [← hQ1]
    show zW E (d) 191 5 [(2, 69), (0, a0), (0, a1), (0, a2), (9, 0), (9, 0), (9, 0), (9, 0), (9, 0), (9, 0)] [(0, 0)] m0 Q
    refine zw_40_1 zr_191_5 ?_ ?_
    · intro h3
      refine zw_push zr_191_21 ?_
      refine zw_R zr_191_23 (by decide) zm_191 (v := (0, (-10))) rfl ?_
      rw [← hQ]; exact ⟨_, rfl, by omega, by omega, hI0, hF0⟩
    · intro h4; omega
  · intro h5
    refine zw_5 zr_140_6 rfl ?_
    refine zw_6 zr_140_7 rfl ?_
    refine zw_39_2 zr_140_9 zr_140_10 ?_ ?_
    · intro h6
      refine zw_push zr_140_17 ?_
      refine zw_R zr_140_18 (by decide) zm_140 (v := (0, 0)) (zRetB (by omega)) ?_
      rw [← hQ2]
      show zW E (d - 1) 143 13 [(2, 69), (0, a0)] [(0, 0)] m0 Q1
      refine zw_R zr_143_13 (by decide) zm_143 (v := (0, 0)) (zRetB (by omega)) ?_
      rw [← hQ1]
      show zW E (d) 191 5 [(2, 69), (0, a0), (0, a1), (0, a2), (9, 0), (9, 0), (9, 0), (9, 0), (9, 0), (9, 0)] [(0, 0)] m0 Q
      refine zw_40_1 zr_191_5 ?_ ?_
      · intro h7
        refine zw_push zr_191_21 ?_
        refine zw_R zr_191_23 (by decide) zm_191 (v := (0, (-10))) rfl ?_
        rw [← hQ]; exact ⟨_, rfl, by omega, by omega, hI0, hF0⟩
      · intro h8; omega
    · intro h9
      refine zw_push zr_140_13 ?_
      refine zw_42 zr_140_14 ?_
      refine zw_R zr_140_18 (by decide) zm_140 (v := (0, 1)) (zRetB (by omega)) ?_
      rw [← hQ2]
      show zW E (d - 1) 143 13 [(2, 69), (0, a0)] [(0, 1)] m0 Q1
      refine zw_R zr_143_13 (by decide) zm_143 (v := (0, 1)) (zRetB (by omega)) ?_
      rw [← hQ1]
      show zW E (d) 191 5 [(2, 69), (0, a0), (0, a1), (0, a2), (9, 0), (9, 0), (9, 0), (9, 0), (9, 0), (9, 0)] [(0, 1)] m0 Q
      refine zw_40_1 zr_191_5 ?_ ?_
      · intro h10; omega
      · intro h11
        refine zw_7 zr_191_8 rfl ?_
        refine zw_3 zr_191_9 rfl ?_
        refine zw_C zr_191_10 (Or.inl rfl) zm_143 rfl rfl ⟨Nat.le_of_ble_eq_true rfl, Nat.le_of_ble_eq_true rfl, Nat.le_of_ble_eq_true rfl, rfl, by decide⟩ (by omega) (P := (fun v m' => zW E (d) 191 13 [(2, 69), (0, a0), (0, a1), (0, a2), (9, 0), (9, 0), (9, 0), (9, 0), (9, 0), (9, 0)] (if v.1 = 9 then [] else v :: []) m' Q)) ?_ (fun _ _ h => h)
        generalize hQ1 : (fun v m' => zW E (d) 191 13 [(2, 69), (0, a0), (0, a1), (0, a2), (9, 0), (9, 0), (9, 0), (9, 0), (9, 0), (9, 0)] (if v.1 = 9 then [] else v :: []) m' Q) = Q1
        show zW E (d - 1) 143 0 [(2, 69), (0, a1)] [] m0 Q1
        refine zw_3 zr_143_0 rfl ?_
        refine zw_36 zr_143_1 ?_
        refine zw_push zr_143_2 ?_
        refine zw_7 zr_143_3 rfl ?_
        refine zw_C zr_143_4 (Or.inl rfl) zm_141 rfl rfl ⟨Nat.le_of_ble_eq_true rfl, Nat.le_of_ble_eq_true rfl, Nat.le_of_ble_eq_true rfl, rfl, by decide⟩ (by omega) (P := (fun v m' => zW E (d - 1) 143 7 [(2, 69), (0, a1)] (if v.1 = 9 then [(1, 0), (1, a1)] else v :: [(1, 0), (1, a1)]) m' Q1)) ?_ (fun _ _ h => h)
        generalize hQ2 : (fun v m' => zW E (d - 1) 143 7 [(2, 69), (0, a1)] (if v.1 = 9 then [(1, 0), (1, a1)] else v :: [(1, 0), (1, a1)]) m' Q1) = Q2
        show zW E (d - 1 - 1) 141 0 [(2, 69)] [] m0 Q2
        refine zw_7 zr_141_0 rfl ?_
        refine zw_46r (s := 70) zr_141_1 rfl rfl rfl rfl ?_
        refine zw_push zr_141_4 ?_
        refine zw_48k (c := 70) (len := 826) zr_141_7 rfl rfl (by omega) (by omega) (show (822 : Int).toNat = 822 by omega) ef1 ?_
        refine zw_R zr_141_8 (by decide) zm_141 (v := (0, f1)) rfl ?_
        rw [← hQ2]
        show zW E (d - 1) 143 7 [(2, 69), (0, a1)] [(0, f1), (1, 0), (1, a1)] m0 Q1
        refine zw_push zr_143_7 ?_
        refine zw_17 zr_143_8 (by omega) ?_
        refine zw_36 zr_143_9 ?_
        refine zw_C zr_143_10 (Or.inr rfl) zm_140 rfl rfl ⟨Nat.le_of_ble_eq_true rfl, Nat.le_of_ble_eq_true rfl, Nat.le_of_ble_eq_true rfl, rfl, by decide⟩ (by omega) (P := (fun v m' => zW E (d - 1) 143 13 [(2, 69), (0, a1)] (if v.1 = 9 then [] else v :: []) m' Q1)) ?_ (fun _ _ h => h)
        generalize hQ2 : (fun v m' => zW E (d - 1) 143 13 [(2, 69), (0, a1)] (if v.1 = 9 then [] else v :: []) m' Q1) = Q2
        show zW E (d - 1 - 1) 140 0 [(1, a1), (9, 0), (1, 0), (9, 0), (1, (f1 - 1)), (9, 0)] [] m0 Q2
        refine zw_5 zr_140_0 rfl ?_
        refine zw_5 zr_140_1 rfl ?_
        refine zw_39_0 zr_140_2 zr_140_3 ?_ ?_
        · intro h12
          refine zw_push zr_140_17 ?_
          refine zw_R zr_140_18 (by decide) zm_140 (v := (0, 0)) (zRetB (by omega)) ?_
          rw [← hQ2]
          show zW E (d - 1) 143 13 [(2, 69), (0, a1)] [(0, 0)] m0 Q1
          refine zw_R zr_143_13 (by decide) zm_143 (v := (0, 0)) (zRetB (by omega)) ?_
          rw [← hQ1]
          show zW E (d) 191 13 [(2, 69), (0, a0), (0, a1), (0, a2), (9, 0), (9, 0), (9, 0), (9, 0), (9, 0), (9, 0)] [(0, 0)] m0 Q
          refine zw_40_1 zr_191_13 ?_ ?_
          · intro h13
            refine zw_push zr_191_21 ?_
            refine zw_R zr_191_23 (by decide) zm_191 (v := (0, (-10))) rfl ?_
            rw [← hQ]; exact ⟨_, rfl, by omega, by omega, hI0, hF0⟩
          · intro h14; omega
        · intro h15
          refine zw_5 zr_140_6 rfl ?_
          refine zw_6 zr_140_7 rfl ?_
          refine zw_39_2 zr_140_9 zr_140_10 ?_ ?_
          · intro h16
            refine zw_push zr_140_17 ?_
            refine zw_R zr_140_18 (by decide) zm_140 (v := (0, 0)) (zRetB (by omega)) ?_
            rw [← hQ2]
            show zW E (d - 1) 143 13 [(2, 69), (0, a1)] [(0, 0)] m0 Q1
            refine zw_R zr_143_13 (by decide) zm_143 (v := (0, 0)) (zRetB (by omega)) ?_
            rw [← hQ1]
            show zW E (d) 191 13 [(2, 69), (0, a0), (0, a1), (0, a2), (9, 0), (9, 0), (9, 0), (9, 0), (9, 0), (9, 0)] [(0, 0)] m0 Q
            refine zw_40_1 zr_191_13 ?_ ?_
            · intro h17
              refine zw_push zr_191_21 ?_
              refine zw_R zr_191_23 (by decide) zm_191 (v := (0, (-10))) rfl ?_
              rw [← hQ]; exact ⟨_, rfl, by omega, by omega, hI0, hF0⟩
            · intro h18; omega
          · intro h19
            refine zw_push zr_140_13 ?_
            refine zw_42 zr_140_14 ?_
            refine zw_R zr_140_18 (by decide) zm_140 (v := (0, 1)) (zRetB (by omega)) ?_
            rw [← hQ2]
            show zW E (d - 1) 143 13 [(2, 69), (0, a1)] [(0, 1)] m0 Q1
            refine zw_R zr_143_13 (by decide) zm_143 (v := (0, 1)) (zRetB (by omega)) ?_
            rw [← hQ1]
            show zW E (d) 191 13 [(2, 69), (0, a0), (0, a1), (0, a2), (9, 0), (9, 0), (9, 0), (9, 0), (9, 0), (9, 0)] [(0, 1)] m0 Q
            refine zw_40_1 zr_191_13 ?_ ?_
            · intro h20; omega
            · intro h21
              refine zw_3 zr_191_16 rfl ?_
              refine zw_push zr_191_17 ?_
              refine zw_41_3 zr_191_18 ?_ ?_
              · intro h22
                refine zw_7 zr_191_24 rfl ?_
                refine zw_3 zr_191_25 rfl ?_
                refine zw_push zr_191_26 ?_
                refine zw_C zr_191_27 (Or.inl rfl) zm_188 rfl rfl ⟨Nat.le_of_ble_eq_true rfl, Nat.le_of_ble_eq_true rfl, Nat.le_of_ble_eq_true rfl, rfl, by decide⟩ (by omega) (th_188 (d := d - 1) (by omega) hI0 (a0 := a1) (a1 := (-1))   (by omega) (by omega)) ?_
                rintro _ m23 ⟨rfl, hIm23, gm23⟩
                have hFm23 : zFr W_191 m0 m23 := hF0.trans gm23 rfl
                have km23_70_822 : m23 70 822 = f1 := (gm23 70 822 rfl).trans ef1
                show zW E (d) 191 30 [(2, 69), (0, a0), (0, a1), (0, a2), (9, 0), (9, 0), (9, 0), (9, 0), (9, 0), (9, 0)] [] m23 Q
                refine zw_7 zr_191_30 rfl ?_
                refine zw_46r (s := 81) zr_191_31 rfl rfl rfl rfl ?_
                refine zw_3 zr_191_34 rfl ?_
                refine zw_48 (c := 81) (len := 10) zr_191_35 rfl rfl (by omega) (by omega) ?_
                intro x24 ex24
                have bx24 := hIm23.ra (c := 81) (len := 10) (k := (a0).toNat) rfl (by omega)
                rw [← ex24] at bx24
                refine zw_push zr_191_36 ?_
                refine zw_41_0 zr_191_38 ?_ ?_
                · intro h25
                  refine zw_3 zr_191_44 rfl ?_
                  refine zw_push zr_191_45 ?_
                  refine zw_41_4 zr_191_46 ?_ ?_
                  · intro h26
                    refine zw_3 zr_191_56 rfl ?_
                    refine zw_7 zr_191_57 rfl ?_
                    refine zw_46r (s := 81) zr_191_58 rfl rfl rfl rfl ?_
                    refine zw_3 zr_191_61 rfl ?_
                    refine zw_48k (c := 81) (len := 10) zr_191_62 rfl rfl (by omega) (by omega) rfl ex24.symm ?_
                    refine zw_41_0 zr_191_63 ?_ ?_
                    · intro h27
                      refine zw_3 zr_191_69 rfl ?_
                      refine zw_10 (L' := [(2, 69), (0, a0), (0, a1), (0, a2), (0, a0), (9, 0), (9, 0), (9, 0), (9, 0), (9, 0)]) zr_191_70 (Nat.le_of_ble_eq_true rfl) rfl ?_
                      refine zw_push zr_191_72 ?_
                      refine zw_10 (L' := [(2, 69), (0, a0), (0, a1), (0, a2), (0, a0), (0, (-1)), (9, 0), (9, 0), (9, 0), (9, 0)]) zr_191_73 (Nat.le_of_ble_eq_true rfl) rfl ?_
                      refine zw_push zr_191_75 ?_
                      refine zw_10 (L' := [(2, 69), (0, a0), (0, a1), (0, a2), (0, a0), (0, (-1)), (0, 0), (9, 0), (9, 0), (9, 0)]) zr_191_76 (Nat.le_of_ble_eq_true rfl) rfl ?_
                      have lp78_31 : ∀ (nlp78_31 : Nat) (i28 i29 i30 : Int), (-1) ≤ i28 → i28 ≤ 9 → (-1) ≤ i29 → i29 ≤ 59 → 0 ≤ i30 → i30 ≤ 2147483647 → (2147483647 - i30).toNat < nlp78_31 → zW E (d) 191 78 [(2, 69), (0, a0), (0, a1), (0, a2), (0, i28), (0, i29), (0, i30), (9, 0), (9, 0), (9, 0)] [] m23 Q := by
                        intro nlp78_31
                        induction nlp78_31 with
                        | zero =>
                          intros
                          exact absurd (by assumption : _ < 0) (Nat.not_lt_zero _)
                        | succ nlp78_31 ihlp78_31 =>
                          intro i28 i29 i30 li28 ui28 li29 ui29 li30 ui30 hmlp78_31
                          refine zw_4 zr_191_78 rfl ?_
                          refine zw_3 zr_191_80 rfl ?_
                          refine zw_41_2 zr_191_81 ?_ ?_
                          · intro h33
                            refine zw_4 zr_191_195 rfl ?_
                            refine zw_R zr_191_197 (by decide) zm_191 (v := (0, i29)) rfl ?_
                            rw [← hQ]; exact ⟨_, rfl, by omega, by omega, hIm23, hFm23⟩
                          · intro h34
                            refine zw_push zr_191_84 ?_
                            refine zw_10 (L' := [(2, 69), (0, a0), (0, a1), (0, a2), (0, i28), (0, i29), (0, i30), (0, (-1)), (9, 0), (9, 0)]) zr_191_85 (Nat.le_of_ble_eq_true rfl) rfl ?_
                            refine zw_push zr_191_87 ?_
                            refine zw_10 (L' := [(2, 69), (0, a0), (0, a1), (0, a2), (0, i28), (0, i29), (0, i30), (0, (-1)), (0, 0), (9, 0)]) zr_191_88 (Nat.le_of_ble_eq_true rfl) rfl ?_
                            have lp90_38 : ∀ (nlp90_38 : Nat) (i35 i36 i37 : Int), (-1) ≤ i35 → i35 ≤ 59 → (-1) ≤ i36 → i36 ≤ 9 → 0 ≤ i37 → i37 ≤ 60 → (60 - i37).toNat < nlp90_38 → zW E (d) 191 90 [(2, 69), (0, a0), (0, a1), (0, a2), (0, i28), (0, i35), (0, i30), (0, i36), (0, i37), (9, 0)] [] m23 Q := by
                              intro nlp90_38
                              induction nlp90_38 with
                              | zero =>
                                intros
                                exact absurd (by assumption : _ < 0) (Nat.not_lt_zero _)
                              | succ nlp90_38 ihlp90_38 =>
                                intro i35 i36 i37 li35 ui35 li36 ui36 li37 ui37 hmlp90_38
                                refine zw_4 zr_191_90 rfl ?_
                                refine zw_7 zr_191_92 rfl ?_
                                refine zw_C zr_191_93 (Or.inl rfl) zm_142 rfl rfl ⟨Nat.le_of_ble_eq_true rfl, Nat.le_of_ble_eq_true rfl, Nat.le_of_ble_eq_true rfl, rfl, by decide⟩ (by omega) (P := (fun v m' => zW E (d) 191 96 [(2, 69), (0, a0), (0, a1), (0, a2), (0, i28), (0, i35), (0, i30), (0, i36), (0, i37), (9, 0)] (if v.1 = 9 then [(0, i37)] else v :: [(0, i37)]) m' Q)) ?_ (fun _ _ h => h)
                                generalize hQ1 : (fun v m' => zW E (d) 191 96 [(2, 69), (0, a0), (0, a1), (0, a2), (0, i28), (0, i35), (0, i30), (0, i36), (0, i37), (9, 0)] (if v.1 = 9 then [(0, i37)] else v :: [(0, i37)]) m' Q) = Q1
                                show zW E (d - 1) 142 0 [(2, 69)] [] m23 Q1
                                refine zw_7 zr_142_0 rfl ?_
                                refine zw_46r (s := 70) zr_142_1 rfl rfl rfl rfl ?_
                                refine zw_push zr_142_4 ?_
                                obtain ⟨f40, ef40⟩ : ∃ v, m23 70 823 = v := ⟨_, rfl⟩
                                have bf40 : 0 ≤ m23 70 823 ∧ m23 70 823 ≤ 60 := ib_70_meetings hIm23 (by omega)
                                rw [ef40] at bf40
                                refine zw_48k (c := 70) (len := 826) zr_142_7 rfl rfl (by omega) (by omega) (show (823 : Int).toNat = 823 by omega) ef40 ?_
                                refine zw_R zr_142_8 (by decide) zm_142 (v := (0, f40)) rfl ?_
                                rw [← hQ1]
                                show zW E (d) 191 96 [(2, 69), (0, a0), (0, a1), (0, a2), (0, i28), (0, i35), (0, i30), (0, i36), (0, i37), (9, 0)] [(0, f40), (0, i37)] m23 Q
                                refine zw_41_3 zr_191_96 ?_ ?_
                                · intro h41
                                  refine zw_4 zr_191_185 rfl ?_
                                  refine zw_10 (L' := [(2, 69), (0, a0), (0, a1), (0, a2), (0, i36), (0, i35), (0, i30), (0, i36), (0, i37), (9, 0)]) zr_191_187 (Nat.le_of_ble_eq_true rfl) rfl ?_
                                  refine zw_15 (c := 1) (L' := [(2, 69), (0, a0), (0, a1), (0, a2), (0, i36), (0, i35), (0, (i30 + 1)), (0, i36), (0, i37), (9, 0)]) zr_191_189 rfl (by decide) (by omega) rfl ?_
                                  refine zw_42 zr_191_192 ?_
                                  exact zw_less (L := [(2, 69), (0, a0), (0, a1), (0, a2), (0, i36), (0, i35), (0, (i30 + 1)), (9, 0), (9, 0), (9, 0)]) ⟨Or.inr rfl, Or.inr rfl, Or.inr rfl, Or.inr rfl, Or.inr rfl, Or.inr rfl, Or.inr rfl, Or.inl rfl, Or.inl rfl, Or.inl rfl, trivial⟩ (ihlp78_31 (i36) (i35) ((i30 + 1))  (by omega) (by omega) (by omega) (by omega) (by omega) (by omega) (by omega))
                                · intro h42
                                  refine zw_7 zr_191_99 rfl ?_
                                  refine zw_4 zr_191_100 rfl ?_
                                  refine zw_C zr_191_102 (Or.inl rfl) zm_181 rfl rfl ⟨Nat.le_of_ble_eq_true rfl, Nat.le_of_ble_eq_true rfl, Nat.le_of_ble_eq_true rfl, rfl, by decide⟩ (by omega) (P := (fun v m' => zW E (d) 191 105 [(2, 69), (0, a0), (0, a1), (0, a2), (0, i28), (0, i35), (0, i30), (0, i36), (0, i37), (9, 0)] (if v.1 = 9 then [] else v :: []) m' Q)) ?_ (fun _ _ h => h)
                                  generalize hQ1 : (fun v m' => zW E (d) 191 105 [(2, 69), (0, a0), (0, a1), (0, a2), (0, i28), (0, i35), (0, i30), (0, i36), (0, i37), (9, 0)] (if v.1 = 9 then [] else v :: []) m' Q) = Q1
                                  show zW E (d - 1) 181 0 [(2, 69), (0, i37)] [] m23 Q1
                                  refine zw_7 zr_181_0 rfl ?_
                                  refine zw_3 zr_181_1 rfl ?_
                                  refine zw_push zr_181_2 ?_
                                  refine zw_C zr_181_3 (Or.inl rfl) zm_144 rfl rfl ⟨Nat.le_of_ble_eq_true rfl, Nat.le_of_ble_eq_true rfl, Nat.le_of_ble_eq_true rfl, rfl, by decide⟩ (by omega) (P := (fun v m' => zW E (d - 1) 181 6 [(2, 69), (0, i37)] (if v.1 = 9 then [] else v :: []) m' Q1)) ?_ (fun _ _ h => h)
                                  generalize hQ2 : (fun v m' => zW E (d - 1) 181 6 [(2, 69), (0, i37)] (if v.1 = 9 then [] else v :: []) m' Q1) = Q2
                                  show zW E (d - 1 - 1) 144 0 [(2, 69), (0, i37), (0, 4)] [] m23 Q2
                                  refine zw_7 zr_144_0 rfl ?_
                                  refine zw_46r (s := 70) zr_144_1 rfl rfl rfl rfl ?_
                                  refine zw_push zr_144_4 ?_
                                  refine zw_push zr_144_6 ?_
                                  refine zw_3 zr_144_8 rfl ?_
                                  refine zw_18 zr_144_9 (by omega) ?_
                                  refine zw_16 zr_144_10 (by omega) ?_
                                  refine zw_3 zr_144_11 rfl ?_
                                  refine zw_16 zr_144_12 (by omega) ?_
                                  refine zw_48 (c := 70) (len := 826) zr_144_13 rfl rfl (by omega) (by omega) ?_
                                  intro x43 ex43
                                  have bx43 := ib_70_m4 hIm23 (k := (((90 + (6 * i37)) + 4)).toNat) (by omega)
                                  rw [← ex43] at bx43
                                  refine zw_R zr_144_14 (by decide) zm_144 (v := (0, x43)) rfl ?_
                                  rw [← hQ2]
                                  show zW E (d - 1) 181 6 [(2, 69), (0, i37)] [(0, x43)] m23 Q1
                                  refine zw_40_4 zr_181_6 ?_ ?_
                                  · intro h44
                                    refine zw_push zr_181_22 ?_
                                    refine zw_R zr_181_23 (by decide) zm_181 (v := (0, 0)) (zRetB (by omega)) ?_
                                    rw [← hQ1]
                                    show zW E (d) 191 105 [(2, 69), (0, a0), (0, a1), (0, a2), (0, i28), (0, i35), (0, i30), (0, i36), (0, i37), (9, 0)] [(0, 0)] m23 Q
                                    refine zw_40_1 zr_191_105 ?_ ?_
                                    · intro h45
                                      refine zw_15 (c := 1) (L' := [(2, 69), (0, a0), (0, a1), (0, a2), (0, i28), (0, i35), (0, i30), (0, i36), (0, (i37 + 1)), (9, 0)]) zr_191_179 rfl (by decide) (by omega) rfl ?_
                                      refine zw_42 zr_191_182 ?_
                                      exact zw_less (L := [(2, 69), (0, a0), (0, a1), (0, a2), (0, i28), (0, i35), (0, i30), (0, i36), (0, (i37 + 1)), (9, 0)]) ⟨Or.inr rfl, Or.inr rfl, Or.inr rfl, Or.inr rfl, Or.inr rfl, Or.inr rfl, Or.inr rfl, Or.inr rfl, Or.inr rfl, Or.inl rfl, trivial⟩ (ihlp90_38 (i35) (i36) ((i37 + 1))  (by omega) (by omega) (by omega) (by omega) (by omega) (by omega) (by omega))
                                    · intro h46; omega
                                  · intro h47
                                    refine zw_7 zr_181_9 rfl ?_
                                    refine zw_3 zr_181_10 rfl ?_
                                    refine zw_push zr_181_11 ?_
                                    refine zw_C zr_181_12 (Or.inl rfl) zm_144 rfl rfl ⟨Nat.le_of_ble_eq_true rfl, Nat.le_of_ble_eq_true rfl, Nat.le_of_ble_eq_true rfl, rfl, by decide⟩ (by omega) (P := (fun v m' => zW E (d - 1) 181 15 [(2, 69), (0, i37)] (if v.1 = 9 then [] else v :: []) m' Q1)) ?_ (fun _ _ h => h)
                                    generalize hQ2 : (fun v m' => zW E (d - 1) 181 15 [(2, 69), (0, i37)] (if v.1 = 9 then [] else v :: []) m' Q1) = Q2
                                    show zW E (d - 1 - 1) 144 0 [(2, 69), (0, i37), (0, 5)] [] m23 Q2
                                    refine zw_7 zr_144_0 rfl ?_
                                    refine zw_46r (s := 70) zr_144_1 rfl rfl rfl rfl ?_
                                    refine zw_push zr_144_4 ?_
                                    refine zw_push zr_144_6 ?_
                                    refine zw_3 zr_144_8 rfl ?_
                                    refine zw_18 zr_144_9 (by omega) ?_
                                    refine zw_16 zr_144_10 (by omega) ?_
                                    refine zw_3 zr_144_11 rfl ?_
                                    refine zw_16 zr_144_12 (by omega) ?_
                                    refine zw_48 (c := 70) (len := 826) zr_144_13 rfl rfl (by omega) (by omega) ?_
                                    intro x48 ex48
                                    have bx48 := ib_70_m5 hIm23 (k := (((90 + (6 * i37)) + 5)).toNat) (by omega)
                                    rw [← ex48] at bx48
                                    refine zw_R zr_144_14 (by decide) zm_144 (v := (0, x48)) rfl ?_
                                    rw [← hQ2]
                                    show zW E (d - 1) 181 15 [(2, 69), (0, i37)] [(0, x48)] m23 Q1
                                    refine zw_40_4 zr_181_15 ?_ ?_
                                    · intro h49
                                      refine zw_push zr_181_22 ?_
                                      refine zw_R zr_181_23 (by decide) zm_181 (v := (0, 0)) (zRetB (by omega)) ?_
                                      rw [← hQ1]
                                      show zW E (d) 191 105 [(2, 69), (0, a0), (0, a1), (0, a2), (0, i28), (0, i35), (0, i30), (0, i36), (0, i37), (9, 0)] [(0, 0)] m23 Q
                                      refine zw_40_1 zr_191_105 ?_ ?_
                                      · intro h50
                                        refine zw_15 (c := 1) (L' := [(2, 69), (0, a0), (0, a1), (0, a2), (0, i28), (0, i35), (0, i30), (0, i36), (0, (i37 + 1)), (9, 0)]) zr_191_179 rfl (by decide) (by omega) rfl ?_
                                        refine zw_42 zr_191_182 ?_
                                        exact zw_less (L := [(2, 69), (0, a0), (0, a1), (0, a2), (0, i28), (0, i35), (0, i30), (0, i36), (0, (i37 + 1)), (9, 0)]) ⟨Or.inr rfl, Or.inr rfl, Or.inr rfl, Or.inr rfl, Or.inr rfl, Or.inr rfl, Or.inr rfl, Or.inr rfl, Or.inr rfl, Or.inl rfl, trivial⟩ (ihlp90_38 (i35) (i36) ((i37 + 1))  (by omega) (by omega) (by omega) (by omega) (by omega) (by omega) (by omega))
                                      · intro h51; omega
                                    · intro h52
                                      refine zw_push zr_181_18 ?_
                                      refine zw_42 zr_181_19 ?_
                                      refine zw_R zr_181_23 (by decide) zm_181 (v := (0, 1)) (zRetB (by omega)) ?_
                                      rw [← hQ1]
                                      show zW E (d) 191 105 [(2, 69), (0, a0), (0, a1), (0, a2), (0, i28), (0, i35), (0, i30), (0, i36), (0, i37), (9, 0)] [(0, 1)] m23 Q
                                      refine zw_40_1 zr_191_105 ?_ ?_
                                      · intro h53; omega
                                      · intro h54
                                        refine zw_7 zr_191_108 rfl ?_
                                        refine zw_4 zr_191_109 rfl ?_
                                        refine zw_4 zr_191_111 rfl ?_
                                        refine zw_C zr_191_113 (Or.inl rfl) zm_171 rfl rfl ⟨Nat.le_of_ble_eq_true rfl, Nat.le_of_ble_eq_true rfl, Nat.le_of_ble_eq_true rfl, rfl, by decide⟩ (by omega) (P := (fun v m' => zW E (d) 191 116 [(2, 69), (0, a0), (0, a1), (0, a2), (0, i28), (0, i35), (0, i30), (0, i36), (0, i37), (9, 0)] (if v.1 = 9 then [] else v :: []) m' Q)) ?_ (fun _ _ h => h)
                                        generalize hQ1 : (fun v m' => zW E (d) 191 116 [(2, 69), (0, a0), (0, a1), (0, a2), (0, i28), (0, i35), (0, i30), (0, i36), (0, i37), (9, 0)] (if v.1 = 9 then [] else v :: []) m' Q) = Q1
                                        show zW E (d - 1) 171 0 [(2, 69), (0, i37), (0, i28)] [] m23 Q1
                                        refine zw_7 zr_171_0 rfl ?_
                                        refine zw_3 zr_171_1 rfl ?_
                                        refine zw_push zr_171_2 ?_
                                        refine zw_C zr_171_3 (Or.inl rfl) zm_144 rfl rfl ⟨Nat.le_of_ble_eq_true rfl, Nat.le_of_ble_eq_true rfl, Nat.le_of_ble_eq_true rfl, rfl, by decide⟩ (by omega) (P := (fun v m' => zW E (d - 1) 171 6 [(2, 69), (0, i37), (0, i28)] (if v.1 = 9 then [] else v :: []) m' Q1)) ?_ (fun _ _ h => h)
                                        generalize hQ2 : (fun v m' => zW E (d - 1) 171 6 [(2, 69), (0, i37), (0, i28)] (if v.1 = 9 then [] else v :: []) m' Q1) = Q2
                                        show zW E (d - 1 - 1) 144 0 [(2, 69), (0, i37), (0, 1)] [] m23 Q2
                                        refine zw_7 zr_144_0 rfl ?_
                                        refine zw_46r (s := 70) zr_144_1 rfl rfl rfl rfl ?_
                                        refine zw_push zr_144_4 ?_
                                        refine zw_push zr_144_6 ?_
                                        refine zw_3 zr_144_8 rfl ?_
                                        refine zw_18 zr_144_9 (by omega) ?_
                                        refine zw_16 zr_144_10 (by omega) ?_
                                        refine zw_3 zr_144_11 rfl ?_
                                        refine zw_16 zr_144_12 (by omega) ?_
                                        refine zw_48 (c := 70) (len := 826) zr_144_13 rfl rfl (by omega) (by omega) ?_
                                        intro x55 ex55
                                        have bx55 := ib_70_m1 hIm23 (k := (((90 + (6 * i37)) + 1)).toNat) (by omega)
                                        rw [← ex55] at bx55
                                        refine zw_R zr_144_14 (by decide) zm_144 (v := (0, x55)) rfl ?_
                                        rw [← hQ2]
                                        show zW E (d - 1) 171 6 [(2, 69), (0, i37), (0, i28)] [(0, x55)] m23 Q1
                                        refine zw_3 zr_171_6 rfl ?_
                                        refine zw_41_1 zr_171_7 ?_ ?_
                                        · intro h56
                                          refine zw_push zr_171_20 ?_
                                          refine zw_42 zr_171_21 ?_
                                          refine zw_R zr_171_25 (by decide) zm_171 (v := (0, 1)) (zRetB (by omega)) ?_
                                          rw [← hQ1]
                                          show zW E (d) 191 116 [(2, 69), (0, a0), (0, a1), (0, a2), (0, i28), (0, i35), (0, i30), (0, i36), (0, i37), (9, 0)] [(0, 1)] m23 Q
                                          refine zw_40_1 zr_191_116 ?_ ?_
                                          · intro h57; omega
                                          · intro h58
                                            refine zw_7 zr_191_119 rfl ?_
                                            refine zw_4 zr_191_120 rfl ?_
                                            refine zw_push zr_191_122 ?_
                                            refine zw_C zr_191_123 (Or.inl rfl) zm_144 rfl rfl ⟨Nat.le_of_ble_eq_true rfl, Nat.le_of_ble_eq_true rfl, Nat.le_of_ble_eq_true rfl, rfl, by decide⟩ (by omega) (P := (fun v m' => zW E (d) 191 126 [(2, 69), (0, a0), (0, a1), (0, a2), (0, i28), (0, i35), (0, i30), (0, i36), (0, i37), (9, 0)] (if v.1 = 9 then [] else v :: []) m' Q)) ?_ (fun _ _ h => h)
                                            generalize hQ1 : (fun v m' => zW E (d) 191 126 [(2, 69), (0, a0), (0, a1), (0, a2), (0, i28), (0, i35), (0, i30), (0, i36), (0, i37), (9, 0)] (if v.1 = 9 then [] else v :: []) m' Q) = Q1
                                            show zW E (d - 1) 144 0 [(2, 69), (0, i37), (0, 1)] [] m23 Q1
                                            refine zw_7 zr_144_0 rfl ?_
                                            refine zw_46r (s := 70) zr_144_1 rfl rfl rfl rfl ?_
                                            refine zw_push zr_144_4 ?_
                                            refine zw_push zr_144_6 ?_
                                            refine zw_3 zr_144_8 rfl ?_
                                            refine zw_18 zr_144_9 (by omega) ?_
                                            refine zw_16 zr_144_10 (by omega) ?_
                                            refine zw_3 zr_144_11 rfl ?_
                                            refine zw_16 zr_144_12 (by omega) ?_
                                            refine zw_48k (c := 70) (len := 826) zr_144_13 rfl rfl (by omega) (by omega) rfl ex55.symm ?_
                                            refine zw_R zr_144_14 (by decide) zm_144 (v := (0, x55)) rfl ?_
                                            rw [← hQ1]
                                            show zW E (d) 191 126 [(2, 69), (0, a0), (0, a1), (0, a2), (0, i28), (0, i35), (0, i30), (0, i36), (0, i37), (9, 0)] [(0, x55)] m23 Q
                                            refine zw_7 zr_191_126 rfl ?_
                                            refine zw_4 zr_191_127 rfl ?_
                                            refine zw_push zr_191_129 ?_
                                            refine zw_C zr_191_130 (Or.inl rfl) zm_144 rfl rfl ⟨Nat.le_of_ble_eq_true rfl, Nat.le_of_ble_eq_true rfl, Nat.le_of_ble_eq_true rfl, rfl, by decide⟩ (by omega) (P := (fun v m' => zW E (d) 191 133 [(2, 69), (0, a0), (0, a1), (0, a2), (0, i28), (0, i35), (0, i30), (0, i36), (0, i37), (9, 0)] (if v.1 = 9 then [(0, x55)] else v :: [(0, x55)]) m' Q)) ?_ (fun _ _ h => h)
                                            generalize hQ1 : (fun v m' => zW E (d) 191 133 [(2, 69), (0, a0), (0, a1), (0, a2), (0, i28), (0, i35), (0, i30), (0, i36), (0, i37), (9, 0)] (if v.1 = 9 then [(0, x55)] else v :: [(0, x55)]) m' Q) = Q1
                                            show zW E (d - 1) 144 0 [(2, 69), (0, i37), (0, 2)] [] m23 Q1
                                            refine zw_7 zr_144_0 rfl ?_
                                            refine zw_46r (s := 70) zr_144_1 rfl rfl rfl rfl ?_
                                            refine zw_push zr_144_4 ?_
                                            refine zw_push zr_144_6 ?_
                                            refine zw_3 zr_144_8 rfl ?_
                                            refine zw_18 zr_144_9 (by omega) ?_
                                            refine zw_16 zr_144_10 (by omega) ?_
                                            refine zw_3 zr_144_11 rfl ?_
                                            refine zw_16 zr_144_12 (by omega) ?_
                                            refine zw_48 (c := 70) (len := 826) zr_144_13 rfl rfl (by omega) (by omega) ?_
                                            intro x59 ex59
                                            have bx59 := ib_70_m2 hIm23 (k := (((90 + (6 * i37)) + 2)).toNat) (by omega)
                                            rw [← ex59] at bx59
                                            clear ex59
                                            refine zw_R zr_144_14 (by decide) zm_144 (v := (0, x59)) rfl ?_
                                            rw [← hQ1]
                                            show zW E (d) 191 133 [(2, 69), (0, a0), (0, a1), (0, a2), (0, i28), (0, i35), (0, i30), (0, i36), (0, i37), (9, 0)] [(0, x59), (0, x55)] m23 Q
                                            refine zw_16 zr_191_133 (by omega) ?_
                                            refine zw_4 zr_191_134 rfl ?_
                                            refine zw_17 zr_191_136 (by omega) ?_
                                            refine zw_10 (L' := [(2, 69), (0, a0), (0, a1), (0, a2), (0, i28), (0, i35), (0, i30), (0, i36), (0, i37), (0, ((x55 + x59) - i28))]) zr_191_137 (Nat.le_of_ble_eq_true rfl) rfl ?_
                                            refine zw_7 zr_191_139 rfl ?_
                                            refine zw_46r (s := 81) zr_191_140 rfl rfl rfl rfl ?_
                                            refine zw_4 zr_191_143 rfl ?_
                                            refine zw_48 (c := 81) (len := 10) zr_191_145 rfl rfl (by omega) (by omega) ?_
                                            intro x60 ex60
                                            have bx60 := hIm23.ra (c := 81) (len := 10) (k := (((x55 + x59) - i28)).toNat) rfl (by omega)
                                            rw [← ex60] at bx60
                                            clear ex60
                                            refine zw_7 zr_191_146 rfl ?_
                                            refine zw_46r (s := 81) zr_191_147 rfl rfl rfl rfl ?_
                                            refine zw_4 zr_191_150 rfl ?_
                                            refine zw_48 (c := 81) (len := 10) zr_191_152 rfl rfl (by omega) (by omega) ?_
                                            intro x61 ex61
                                            have bx61 := hIm23.ra (c := 81) (len := 10) (k := (i28).toNat) rfl (by omega)
                                            rw [← ex61] at bx61
                                            clear ex61
                                            refine zw_push zr_191_153 ?_
                                            refine zw_17h zr_191_154 ?_
                                            intro x62 hx62a hx62b
                                            refine zw_41_4 zr_191_155 ?_ ?_
                                            · intro h63
                                              refine zw_15 (c := 1) (L' := [(2, 69), (0, a0), (0, a1), (0, a2), (0, i28), (0, i35), (0, i30), (0, i36), (0, (i37 + 1)), (0, ((x55 + x59) - i28))]) zr_191_179 rfl (by decide) (by omega) rfl ?_
                                              refine zw_42 zr_191_182 ?_
                                              exact zw_less (L := [(2, 69), (0, a0), (0, a1), (0, a2), (0, i28), (0, i35), (0, i30), (0, i36), (0, (i37 + 1)), (9, 0)]) ⟨Or.inr rfl, Or.inr rfl, Or.inr rfl, Or.inr rfl, Or.inr rfl, Or.inr rfl, Or.inr rfl, Or.inr rfl, Or.inr rfl, Or.inl rfl, trivial⟩ (ihlp90_38 (i35) (i36) ((i37 + 1))  (by omega) (by omega) (by omega) (by omega) (by omega) (by omega) (by omega))
                                            · intro h64
                                              refine zw_4 zr_191_158 rfl ?_
                                              refine zw_push zr_191_160 ?_
                                              refine zw_41_1 zr_191_161 ?_ ?_
                                              · intro h65
                                                refine zw_4 zr_191_171 rfl ?_
                                                refine zw_10 (L' := [(2, 69), (0, a0), (0, a1), (0, a2), (0, i28), (0, i35), (0, i30), (0, ((x55 + x59) - i28)), (0, i37), (0, ((x55 + x59) - i28))]) zr_191_173 (Nat.le_of_ble_eq_true rfl) rfl ?_
                                                refine zw_4 zr_191_175 rfl ?_
                                                refine zw_10 (L' := [(2, 69), (0, a0), (0, a1), (0, a2), (0, i28), (0, i37), (0, i30), (0, ((x55 + x59) - i28)), (0, i37), (0, ((x55 + x59) - i28))]) zr_191_177 (Nat.le_of_ble_eq_true rfl) rfl ?_
                                                refine zw_15 (c := 1) (L' := [(2, 69), (0, a0), (0, a1), (0, a2), (0, i28), (0, i37), (0, i30), (0, ((x55 + x59) - i28)), (0, (i37 + 1)), (0, ((x55 + x59) - i28))]) zr_191_179 rfl (by decide) (by omega) rfl ?_
                                                refine zw_42 zr_191_182 ?_
                                                exact zw_less (L := [(2, 69), (0, a0), (0, a1), (0, a2), (0, i28), (0, i37), (0, i30), (0, ((x55 + x59) - i28)), (0, (i37 + 1)), (9, 0)]) ⟨Or.inr rfl, Or.inr rfl, Or.inr rfl, Or.inr rfl, Or.inr rfl, Or.inr rfl, Or.inr rfl, Or.inr rfl, Or.inr rfl, Or.inl rfl, trivial⟩ (ihlp90_38 (i37) (((x55 + x59) - i28)) ((i37 + 1))  (by omega) (by omega) (by omega) (by omega) (by omega) (by omega) (by omega))
                                              · intro h66
                                                refine zw_4 zr_191_164 rfl ?_
                                                refine zw_4 zr_191_166 rfl ?_
                                                refine zw_41_3 zr_191_168 ?_ ?_
                                                · intro h67
                                                  refine zw_15 (c := 1) (L' := [(2, 69), (0, a0), (0, a1), (0, a2), (0, i28), (0, i35), (0, i30), (0, i36), (0, (i37 + 1)), (0, ((x55 + x59) - i28))]) zr_191_179 rfl (by decide) (by omega) rfl ?_
                                                  refine zw_42 zr_191_182 ?_
                                                  exact zw_less (L := [(2, 69), (0, a0), (0, a1), (0, a2), (0, i28), (0, i35), (0, i30), (0, i36), (0, (i37 + 1)), (9, 0)]) ⟨Or.inr rfl, Or.inr rfl, Or.inr rfl, Or.inr rfl, Or.inr rfl, Or.inr rfl, Or.inr rfl, Or.inr rfl, Or.inr rfl, Or.inl rfl, trivial⟩ (ihlp90_38 (i35) (i36) ((i37 + 1))  (by omega) (by omega) (by omega) (by omega) (by omega) (by omega) (by omega))
                                                · intro h68
                                                  refine zw_4 zr_191_171 rfl ?_
                                                  refine zw_10 (L' := [(2, 69), (0, a0), (0, a1), (0, a2), (0, i28), (0, i35), (0, i30), (0, ((x55 + x59) - i28)), (0, i37), (0, ((x55 + x59) - i28))]) zr_191_173 (Nat.le_of_ble_eq_true rfl) rfl ?_
                                                  refine zw_4 zr_191_175 rfl ?_
                                                  refine zw_10 (L' := [(2, 69), (0, a0), (0, a1), (0, a2), (0, i28), (0, i37), (0, i30), (0, ((x55 + x59) - i28)), (0, i37), (0, ((x55 + x59) - i28))]) zr_191_177 (Nat.le_of_ble_eq_true rfl) rfl ?_
                                                  refine zw_15 (c := 1) (L' := [(2, 69), (0, a0), (0, a1), (0, a2), (0, i28), (0, i37), (0, i30), (0, ((x55 + x59) - i28)), (0, (i37 + 1)), (0, ((x55 + x59) - i28))]) zr_191_179 rfl (by decide) (by omega) rfl ?_
                                                  refine zw_42 zr_191_182 ?_
                                                  exact zw_less (L := [(2, 69), (0, a0), (0, a1), (0, a2), (0, i28), (0, i37), (0, i30), (0, ((x55 + x59) - i28)), (0, (i37 + 1)), (9, 0)]) ⟨Or.inr rfl, Or.inr rfl, Or.inr rfl, Or.inr rfl, Or.inr rfl, Or.inr rfl, Or.inr rfl, Or.inr rfl, Or.inr rfl, Or.inl rfl, trivial⟩ (ihlp90_38 (i37) (((x55 + x59) - i28)) ((i37 + 1))  (by omega) (by omega) (by omega) (by omega) (by omega) (by omega) (by omega))
                                        · intro h69
                                          refine zw_7 zr_171_10 rfl ?_
                                          refine zw_3 zr_171_11 rfl ?_
                                          refine zw_push zr_171_12 ?_
                                          refine zw_C zr_171_13 (Or.inl rfl) zm_144 rfl rfl ⟨Nat.le_of_ble_eq_true rfl, Nat.le_of_ble_eq_true rfl, Nat.le_of_ble_eq_true rfl, rfl, by decide⟩ (by omega) (P := (fun v m' => zW E (d - 1) 171 16 [(2, 69), (0, i37), (0, i28)] (if v.1 = 9 then [] else v :: []) m' Q1)) ?_ (fun _ _ h => h)
                                          generalize hQ2 : (fun v m' => zW E (d - 1) 171 16 [(2, 69), (0, i37), (0, i28)] (if v.1 = 9 then [] else v :: []) m' Q1) = Q2
                                          show zW E (d - 1 - 1) 144 0 [(2, 69), (0, i37), (0, 2)] [] m23 Q2
                                          refine zw_7 zr_144_0 rfl ?_
                                          refine zw_46r (s := 70) zr_144_1 rfl rfl rfl rfl ?_
                                          refine zw_push zr_144_4 ?_
                                          refine zw_push zr_144_6 ?_
                                          refine zw_3 zr_144_8 rfl ?_
                                          refine zw_18 zr_144_9 (by omega) ?_
                                          refine zw_16 zr_144_10 (by omega) ?_
                                          refine zw_3 zr_144_11 rfl ?_
                                          refine zw_16 zr_144_12 (by omega) ?_
                                          refine zw_48 (c := 70) (len := 826) zr_144_13 rfl rfl (by omega) (by omega) ?_
                                          intro x70 ex70
                                          have bx70 := ib_70_m2 hIm23 (k := (((90 + (6 * i37)) + 2)).toNat) (by omega)
                                          rw [← ex70] at bx70
                                          refine zw_R zr_144_14 (by decide) zm_144 (v := (0, x70)) rfl ?_
                                          rw [← hQ2]
                                          show zW E (d - 1) 171 16 [(2, 69), (0, i37), (0, i28)] [(0, x70)] m23 Q1
                                          refine zw_3 zr_171_16 rfl ?_
                                          refine zw_41_4 zr_171_17 ?_ ?_
                                          · intro h71
                                            refine zw_push zr_171_24 ?_
                                            refine zw_R zr_171_25 (by decide) zm_171 (v := (0, 0)) (zRetB (by omega)) ?_
                                            rw [← hQ1]
                                            show zW E (d) 191 116 [(2, 69), (0, a0), (0, a1), (0, a2), (0, i28), (0, i35), (0, i30), (0, i36), (0, i37), (9, 0)] [(0, 0)] m23 Q
                                            refine zw_40_1 zr_191_116 ?_ ?_
                                            · intro h72
                                              refine zw_15 (c := 1) (L' := [(2, 69), (0, a0), (0, a1), (0, a2), (0, i28), (0, i35), (0, i30), (0, i36), (0, (i37 + 1)), (9, 0)]) zr_191_179 rfl (by decide) (by omega) rfl ?_
                                              refine zw_42 zr_191_182 ?_
                                              exact zw_less (L := [(2, 69), (0, a0), (0, a1), (0, a2), (0, i28), (0, i35), (0, i30), (0, i36), (0, (i37 + 1)), (9, 0)]) ⟨Or.inr rfl, Or.inr rfl, Or.inr rfl, Or.inr rfl, Or.inr rfl, Or.inr rfl, Or.inr rfl, Or.inr rfl, Or.inr rfl, Or.inl rfl, trivial⟩ (ihlp90_38 (i35) (i36) ((i37 + 1))  (by omega) (by omega) (by omega) (by omega) (by omega) (by omega) (by omega))
                                            · intro h73; omega
                                          · intro h74
                                            refine zw_push zr_171_20 ?_
                                            refine zw_42 zr_171_21 ?_
                                            refine zw_R zr_171_25 (by decide) zm_171 (v := (0, 1)) (zRetB (by omega)) ?_
                                            rw [← hQ1]
                                            show zW E (d) 191 116 [(2, 69), (0, a0), (0, a1), (0, a2), (0, i28), (0, i35), (0, i30), (0, i36), (0, i37), (9, 0)] [(0, 1)] m23 Q
                                            refine zw_40_1 zr_191_116 ?_ ?_
                                            · intro h75; omega
                                            · intro h76
                                              refine zw_7 zr_191_119 rfl ?_
                                              refine zw_4 zr_191_120 rfl ?_
                                              refine zw_push zr_191_122 ?_
                                              refine zw_C zr_191_123 (Or.inl rfl) zm_144 rfl rfl ⟨Nat.le_of_ble_eq_true rfl, Nat.le_of_ble_eq_true rfl, Nat.le_of_ble_eq_true rfl, rfl, by decide⟩ (by omega) (P := (fun v m' => zW E (d) 191 126 [(2, 69), (0, a0), (0, a1), (0, a2), (0, i28), (0, i35), (0, i30), (0, i36), (0, i37), (9, 0)] (if v.1 = 9 then [] else v :: []) m' Q)) ?_ (fun _ _ h => h)
                                              generalize hQ1 : (fun v m' => zW E (d) 191 126 [(2, 69), (0, a0), (0, a1), (0, a2), (0, i28), (0, i35), (0, i30), (0, i36), (0, i37), (9, 0)] (if v.1 = 9 then [] else v :: []) m' Q) = Q1
                                              show zW E (d - 1) 144 0 [(2, 69), (0, i37), (0, 1)] [] m23 Q1
                                              refine zw_7 zr_144_0 rfl ?_
                                              refine zw_46r (s := 70) zr_144_1 rfl rfl rfl rfl ?_
                                              refine zw_push zr_144_4 ?_
                                              refine zw_push zr_144_6 ?_
                                              refine zw_3 zr_144_8 rfl ?_
                                              refine zw_18 zr_144_9 (by omega) ?_
                                              refine zw_16 zr_144_10 (by omega) ?_
                                              refine zw_3 zr_144_11 rfl ?_
                                              refine zw_16 zr_144_12 (by omega) ?_
                                              refine zw_48k (c := 70) (len := 826) zr_144_13 rfl rfl (by omega) (by omega) rfl ex55.symm ?_
                                              refine zw_R zr_144_14 (by decide) zm_144 (v := (0, x55)) rfl ?_
                                              rw [← hQ1]
                                              show zW E (d) 191 126 [(2, 69), (0, a0), (0, a1), (0, a2), (0, i28), (0, i35), (0, i30), (0, i36), (0, i37), (9, 0)] [(0, x55)] m23 Q
                                              refine zw_7 zr_191_126 rfl ?_
                                              refine zw_4 zr_191_127 rfl ?_
                                              refine zw_push zr_191_129 ?_
                                              refine zw_C zr_191_130 (Or.inl rfl) zm_144 rfl rfl ⟨Nat.le_of_ble_eq_true rfl, Nat.le_of_ble_eq_true rfl, Nat.le_of_ble_eq_true rfl, rfl, by decide⟩ (by omega) (P := (fun v m' => zW E (d) 191 133 [(2, 69), (0, a0), (0, a1), (0, a2), (0, i28), (0, i35), (0, i30), (0, i36), (0, i37), (9, 0)] (if v.1 = 9 then [(0, x55)] else v :: [(0, x55)]) m' Q)) ?_ (fun _ _ h => h)
                                              generalize hQ1 : (fun v m' => zW E (d) 191 133 [(2, 69), (0, a0), (0, a1), (0, a2), (0, i28), (0, i35), (0, i30), (0, i36), (0, i37), (9, 0)] (if v.1 = 9 then [(0, x55)] else v :: [(0, x55)]) m' Q) = Q1
                                              show zW E (d - 1) 144 0 [(2, 69), (0, i37), (0, 2)] [] m23 Q1
                                              refine zw_7 zr_144_0 rfl ?_
                                              refine zw_46r (s := 70) zr_144_1 rfl rfl rfl rfl ?_
                                              refine zw_push zr_144_4 ?_
                                              refine zw_push zr_144_6 ?_
                                              refine zw_3 zr_144_8 rfl ?_
                                              refine zw_18 zr_144_9 (by omega) ?_
                                              refine zw_16 zr_144_10 (by omega) ?_
                                              refine zw_3 zr_144_11 rfl ?_
                                              refine zw_16 zr_144_12 (by omega) ?_
                                              refine zw_48k (c := 70) (len := 826) zr_144_13 rfl rfl (by omega) (by omega) rfl ex70.symm ?_
                                              refine zw_R zr_144_14 (by decide) zm_144 (v := (0, x70)) rfl ?_
                                              rw [← hQ1]
                                              show zW E (d) 191 133 [(2, 69), (0, a0), (0, a1), (0, a2), (0, i28), (0, i35), (0, i30), (0, i36), (0, i37), (9, 0)] [(0, x70), (0, x55)] m23 Q
                                              refine zw_16 zr_191_133 (by omega) ?_
                                              refine zw_4 zr_191_134 rfl ?_
                                              refine zw_17 zr_191_136 (by omega) ?_
                                              refine zw_10 (L' := [(2, 69), (0, a0), (0, a1), (0, a2), (0, i28), (0, i35), (0, i30), (0, i36), (0, i37), (0, ((x55 + x70) - i28))]) zr_191_137 (Nat.le_of_ble_eq_true rfl) rfl ?_
                                              refine zw_7 zr_191_139 rfl ?_
                                              refine zw_46r (s := 81) zr_191_140 rfl rfl rfl rfl ?_
                                              refine zw_4 zr_191_143 rfl ?_
                                              refine zw_48 (c := 81) (len := 10) zr_191_145 rfl rfl (by omega) (by omega) ?_
                                              intro x77 ex77
                                              have bx77 := hIm23.ra (c := 81) (len := 10) (k := (((x55 + x70) - i28)).toNat) rfl (by omega)
                                              rw [← ex77] at bx77
                                              clear ex77
                                              refine zw_7 zr_191_146 rfl ?_
                                              refine zw_46r (s := 81) zr_191_147 rfl rfl rfl rfl ?_
                                              refine zw_4 zr_191_150 rfl ?_
                                              refine zw_48 (c := 81) (len := 10) zr_191_152 rfl rfl (by omega) (by omega) ?_
                                              intro x78 ex78
                                              have bx78 := hIm23.ra (c := 81) (len := 10) (k := (i28).toNat) rfl (by omega)
                                              rw [← ex78] at bx78
                                              clear ex78
                                              refine zw_push zr_191_153 ?_
                                              refine zw_17h zr_191_154 ?_
                                              intro x79 hx79a hx79b
                                              refine zw_41_4 zr_191_155 ?_ ?_
                                              · intro h80
                                                refine zw_15 (c := 1) (L' := [(2, 69), (0, a0), (0, a1), (0, a2), (0, i28), (0, i35), (0, i30), (0, i36), (0, (i37 + 1)), (0, ((x55 + x70) - i28))]) zr_191_179 rfl (by decide) (by omega) rfl ?_
                                                refine zw_42 zr_191_182 ?_
                                                exact zw_less (L := [(2, 69), (0, a0), (0, a1), (0, a2), (0, i28), (0, i35), (0, i30), (0, i36), (0, (i37 + 1)), (9, 0)]) ⟨Or.inr rfl, Or.inr rfl, Or.inr rfl, Or.inr rfl, Or.inr rfl, Or.inr rfl, Or.inr rfl, Or.inr rfl, Or.inr rfl, Or.inl rfl, trivial⟩ (ihlp90_38 (i35) (i36) ((i37 + 1))  (by omega) (by omega) (by omega) (by omega) (by omega) (by omega) (by omega))
                                              · intro h81
                                                refine zw_4 zr_191_158 rfl ?_
                                                refine zw_push zr_191_160 ?_
                                                refine zw_41_1 zr_191_161 ?_ ?_
                                                · intro h82
                                                  refine zw_4 zr_191_171 rfl ?_
                                                  refine zw_10 (L' := [(2, 69), (0, a0), (0, a1), (0, a2), (0, i28), (0, i35), (0, i30), (0, ((x55 + x70) - i28)), (0, i37), (0, ((x55 + x70) - i28))]) zr_191_173 (Nat.le_of_ble_eq_true rfl) rfl ?_
                                                  refine zw_4 zr_191_175 rfl ?_
                                                  refine zw_10 (L' := [(2, 69), (0, a0), (0, a1), (0, a2), (0, i28), (0, i37), (0, i30), (0, ((x55 + x70) - i28)), (0, i37), (0, ((x55 + x70) - i28))]) zr_191_177 (Nat.le_of_ble_eq_true rfl) rfl ?_
                                                  refine zw_15 (c := 1) (L' := [(2, 69), (0, a0), (0, a1), (0, a2), (0, i28), (0, i37), (0, i30), (0, ((x55 + x70) - i28)), (0, (i37 + 1)), (0, ((x55 + x70) - i28))]) zr_191_179 rfl (by decide) (by omega) rfl ?_
                                                  refine zw_42 zr_191_182 ?_
                                                  exact zw_less (L := [(2, 69), (0, a0), (0, a1), (0, a2), (0, i28), (0, i37), (0, i30), (0, ((x55 + x70) - i28)), (0, (i37 + 1)), (9, 0)]) ⟨Or.inr rfl, Or.inr rfl, Or.inr rfl, Or.inr rfl, Or.inr rfl, Or.inr rfl, Or.inr rfl, Or.inr rfl, Or.inr rfl, Or.inl rfl, trivial⟩ (ihlp90_38 (i37) (((x55 + x70) - i28)) ((i37 + 1))  (by omega) (by omega) (by omega) (by omega) (by omega) (by omega) (by omega))
                                                · intro h83
                                                  refine zw_4 zr_191_164 rfl ?_
                                                  refine zw_4 zr_191_166 rfl ?_
                                                  refine zw_41_3 zr_191_168 ?_ ?_
                                                  · intro h84
                                                    refine zw_15 (c := 1) (L' := [(2, 69), (0, a0), (0, a1), (0, a2), (0, i28), (0, i35), (0, i30), (0, i36), (0, (i37 + 1)), (0, ((x55 + x70) - i28))]) zr_191_179 rfl (by decide) (by omega) rfl ?_
                                                    refine zw_42 zr_191_182 ?_
                                                    exact zw_less (L := [(2, 69), (0, a0), (0, a1), (0, a2), (0, i28), (0, i35), (0, i30), (0, i36), (0, (i37 + 1)), (9, 0)]) ⟨Or.inr rfl, Or.inr rfl, Or.inr rfl, Or.inr rfl, Or.inr rfl, Or.inr rfl, Or.inr rfl, Or.inr rfl, Or.inr rfl, Or.inl rfl, trivial⟩ (ihlp90_38 (i35) (i36) ((i37 + 1))  (by omega) (by omega) (by omega) (by omega) (by omega) (by omega) (by omega))
                                                  · intro h85
                                                    refine zw_4 zr_191_171 rfl ?_
                                                    refine zw_10 (L' := [(2, 69), (0, a0), (0, a1), (0, a2), (0, i28), (0, i35), (0, i30), (0, ((x55 + x70) - i28)), (0, i37), (0, ((x55 + x70) - i28))]) zr_191_173 (Nat.le_of_ble_eq_true rfl) rfl ?_
                                                    refine zw_4 zr_191_175 rfl ?_
                                                    refine zw_10 (L' := [(2, 69), (0, a0), (0, a1), (0, a2), (0, i28), (0, i37), (0, i30), (0, ((x55 + x70) - i28)), (0, i37), (0, ((x55 + x70) - i28))]) zr_191_177 (Nat.le_of_ble_eq_true rfl) rfl ?_
                                                    refine zw_15 (c := 1) (L' := [(2, 69), (0, a0), (0, a1), (0, a2), (0, i28), (0, i37), (0, i30), (0, ((x55 + x70) - i28)), (0, (i37 + 1)), (0, ((x55 + x70) - i28))]) zr_191_179 rfl (by decide) (by omega) rfl ?_
                                                    refine zw_42 zr_191_182 ?_
                                                    exact zw_less (L := [(2, 69), (0, a0), (0, a1), (0, a2), (0, i28), (0, i37), (0, i30), (0, ((x55 + x70) - i28)), (0, (i37 + 1)), (9, 0)]) ⟨Or.inr rfl, Or.inr rfl, Or.inr rfl, Or.inr rfl, Or.inr rfl, Or.inr rfl, Or.inr rfl, Or.inr rfl, Or.inr rfl, Or.inl rfl, trivial⟩ (ihlp90_38 (i37) (((x55 + x70) - i28)) ((i37 + 1))  (by omega) (by omega) (by omega) (by omega) (by omega) (by omega) (by omega))
                            exact lp90_38 _ (i29) ((-1)) (0)  (by omega) (by omega) (by omega) (by omega) (by omega) (by omega) (Nat.lt_succ_self _)
                      exact lp78_31 _ (a0) ((-1)) (0)  (by omega) (by omega) (by omega) (by omega) (by omega) (by omega) (Nat.lt_succ_self _)
                    · intro h86
                      refine zw_push zr_191_66 ?_
                      refine zw_R zr_191_68 (by decide) zm_191 (v := (0, (-5))) rfl ?_
                      rw [← hQ]; exact ⟨_, rfl, by omega, by omega, hIm23, hFm23⟩
                  · intro h87
                    refine zw_7 zr_191_49 rfl ?_
                    refine zw_46r (s := 81) zr_191_50 rfl rfl rfl rfl ?_
                    refine zw_3 zr_191_53 rfl ?_
                    refine zw_48k (c := 81) (len := 10) zr_191_54 rfl rfl (by omega) (by omega) rfl ex24.symm ?_
                    refine zw_R zr_191_55 (by decide) zm_191 (v := (0, x24)) rfl ?_
                    rw [← hQ]; exact ⟨_, rfl, by omega, by omega, hIm23, hFm23⟩
                · intro h88
                  refine zw_push zr_191_41 ?_
                  refine zw_R zr_191_43 (by decide) zm_191 (v := (0, (-5))) rfl ?_
                  rw [← hQ]; exact ⟨_, rfl, by omega, by omega, hIm23, hFm23⟩
              · intro h89
                refine zw_push zr_191_21 ?_
                refine zw_R zr_191_23 (by decide) zm_191 (v := (0, (-10))) rfl ?_
                rw [← hQ]; exact ⟨_, rfl, by omega, by omega, hI0, hF0⟩

abbrev W_76 : List (Nat × Nat) := [(61, 1000), (62, 1000)]
set_option maxHeartbeats 8000000 in
theorem th_76 {E : zE} {d : Nat} {m0 : zM} (hd : 3 ≤ d) (hI0 : zInv m0) : zC E d 76 [(2, 60)] m0 (fun v m' => ∃ r : Int, v = (1, r) ∧ (-9223372036854775808) ≤ r ∧ r ≤ 9223372036854775807 ∧ zInv m' ∧ zFr W_76 m0 m') := by
  have hF0 : zFr W_76 m0 m0 := zFr.rfl
  generalize hQ : (fun (v : zV) (m' : zM) => ∃ r : Int, v = (1, r) ∧ (-9223372036854775808) ≤ r ∧ r ≤ 9223372036854775807 ∧ zInv m' ∧ zFr W_76 m0 m') = Q
  show zW E d 76 0 [(2, 60), (9, 0), (9, 0), (9, 0), (9, 0), (9, 0), (9, 0), (9, 0)] [] m0 Q
  refine zw_7 zr_76_0 rfl ?_
  refine zw_46r (s := 1) zr_76_1 rfl rfl rfl rfl ?_
  refine zw_C zr_76_4 (Or.inl rfl) zm_53 rfl rfl ⟨Nat.le_of_ble_eq_true rfl, Nat.le_of_ble_eq_true rfl, Nat.le_of_ble_eq_true rfl, rfl, by decide⟩ (by omega) (th_53 (d := d - 1) (by omega) hI0    ) ?_
  rintro _ _ ⟨r1, rfl, hr1a, hr1b, rfl⟩
  show zW E (d) 76 7 [(2, 60), (9, 0), (9, 0), (9, 0), (9, 0), (9, 0), (9, 0), (9, 0)] [(1, r1)] m0 Q
  refine zw_13 (L' := [(2, 60), (1, r1), (9, 0), (9, 0), (9, 0), (9, 0), (9, 0), (9, 0)]) zr_76_7 (Nat.le_of_ble_eq_true rfl) rfl ?_
  refine zw_push zr_76_8 ?_
  refine zw_13 (L' := [(2, 60), (1, r1), (9, 0), (1, 0), (9, 0), (9, 0), (9, 0), (9, 0)]) zr_76_9 (Nat.le_of_ble_eq_true rfl) rfl ?_
  refine zw_push zr_76_10 ?_
  refine zw_10 (L' := [(2, 60), (1, r1), (9, 0), (1, 0), (9, 0), (0, 0), (9, 0), (9, 0)]) zr_76_11 (Nat.le_of_ble_eq_true rfl) rfl ?_
  have lp13_5 : ∀ (nlp13_5 : Nat) (i2 i3 : Int) (m4 : zM), zInv m4 → zFr W_76 m0 m4 → (-9223372036854775808) ≤ i2 → i2 ≤ 9223372036854775807 → 0 ≤ i3 → i3 ≤ 60 → (60 - i3).toNat < nlp13_5 → zW E (d) 76 13 [(2, 60), (1, r1), (9, 0), (1, i2), (9, 0), (0, i3), (9, 0), (9, 0)] [] m4 Q := by
    intro nlp13_5
    induction nlp13_5 with
    | zero =>
      intros
      exact absurd (by assumption : _ < 0) (Nat.not_lt_zero _)
    | succ nlp13_5 ihlp13_5 =>
      intro i2 i3 m4 hIm4 hFm4 li2 ui2 li3 ui3 hmlp13_5
      refine zw_4 zr_76_13 rfl ?_
      refine zw_7 zr_76_15 rfl ?_
      refine zw_46r (s := 1) zr_76_16 rfl rfl rfl rfl ?_
      obtain ⟨f7, ef7⟩ : ∃ v, m4 1 1 = v := ⟨_, rfl⟩
      have bf7 := ib_1_1 hIm4
      rw [ef7] at bf7
      refine zw_46i zr_76_19 ef7 rfl rfl rfl ?_
      refine zw_41_3 zr_76_22 ?_ ?_
      · intro h8
        refine zw_5 zr_76_100 rfl ?_
        refine zw_R zr_76_101 (by decide) zm_76 (v := (1, i2)) rfl ?_
        rw [← hQ]; exact ⟨_, rfl, by omega, by omega, hIm4, hFm4⟩
      · intro h9
        refine zw_push zr_76_25 ?_
        refine zw_4 zr_76_26 rfl ?_
        refine zw_33h zr_76_28 ?_
        intro x10 hx10a hx10b
        refine zw_14 (L' := [(2, 60), (1, r1), (9, 0), (1, i2), (9, 0), (0, i3), (1, x10), (9, 0)]) zr_76_29 (Nat.le_of_ble_eq_true rfl) rfl ?_
        refine zw_5 zr_76_31 rfl ?_
        refine zw_6 zr_76_32 rfl ?_
        refine zw_30h zr_76_34 ?_
        intro x11 hx11a hx11b
        refine zw_push zr_76_35 ?_
        refine zw_39_1 zr_76_36 zr_76_37 ?_ ?_
        · intro h12
          refine zw_15 (c := 1) (L' := [(2, 60), (1, r1), (9, 0), (1, i2), (9, 0), (0, (i3 + 1)), (1, x10), (9, 0)]) zr_76_94 rfl (by decide) (by omega) rfl ?_
          refine zw_42 zr_76_97 ?_
          exact zw_less (L := [(2, 60), (1, r1), (9, 0), (1, i2), (9, 0), (0, (i3 + 1)), (9, 0), (9, 0)]) ⟨Or.inr rfl, Or.inr rfl, Or.inl rfl, Or.inr rfl, Or.inl rfl, Or.inr rfl, Or.inl rfl, Or.inl rfl, trivial⟩ (ihlp13_5 (i2) ((i3 + 1)) m4 hIm4 hFm4   (by omega) (by omega) (by omega) (by omega) (by omega))
        · intro h13
          refine zw_7 zr_76_40 rfl ?_
          refine zw_5 zr_76_41 rfl ?_
          refine zw_6 zr_76_42 rfl ?_
          refine zw_push zr_76_44 ?_
          refine zw_32h zr_76_47 ?_
          intro x14 hx14a hx14b
          refine zw_30h zr_76_48 ?_
          intro x15 hx15a hx15b
          refine zw_C zr_76_49 (Or.inl rfl) zm_66 rfl rfl ⟨Nat.le_of_ble_eq_true rfl, Nat.le_of_ble_eq_true rfl, Nat.le_of_ble_eq_true rfl, rfl, by decide⟩ (by omega) (th_66 (d := d - 1) (by omega) hIm4 (a0 := x15)   (by omega)) ?_
          rintro _ m16 ⟨rfl, hIm16, gm16⟩
          have hFm16 : zFr W_76 m0 m16 := hFm4.trans gm16 rfl
          have km16_1_1 : m16 1 1 = f7 := (gm16 1 1 rfl).trans ef7
          show zW E (d) 76 52 [(2, 60), (1, r1), (9, 0), (1, i2), (9, 0), (0, i3), (1, x10), (9, 0)] [] m16 Q
          refine zw_7 zr_76_52 rfl ?_
          refine zw_7 zr_76_53 rfl ?_
          refine zw_46r (s := 1) zr_76_54 rfl rfl rfl rfl ?_
          refine zw_46r (s := 6) zr_76_57 rfl rfl rfl rfl ?_
          refine zw_4 zr_76_60 rfl ?_
          refine zw_48 (c := 6) (len := 60) zr_76_62 rfl rfl (by omega) (by omega) ?_
          intro x17 ex17
          have bx17 := ib_6 hIm16 (k := (i3).toNat) (by omega)
          rw [← ex17] at bx17
          clear ex17
          refine zw_C zr_76_63 (Or.inl rfl) zm_67 rfl rfl ⟨Nat.le_of_ble_eq_true rfl, Nat.le_of_ble_eq_true rfl, Nat.le_of_ble_eq_true rfl, rfl, by decide⟩ (by omega) (th_67 (d := d - 1) (by omega) hIm16 (a0 := x17)   (by omega)) ?_
          rintro _ m18 ⟨rfl, hIm18, gm18⟩
          have hFm18 : zFr W_76 m0 m18 := hFm16.trans gm18 rfl
          have km18_1_1 : m18 1 1 = f7 := (gm18 1 1 rfl).trans km16_1_1
          show zW E (d) 76 66 [(2, 60), (1, r1), (9, 0), (1, i2), (9, 0), (0, i3), (1, x10), (9, 0)] [] m18 Q
          refine zw_5 zr_76_66 rfl ?_
          refine zw_7 zr_76_67 rfl ?_
          refine zw_46r (s := 62) zr_76_68 rfl rfl rfl rfl ?_
          refine zw_7 zr_76_71 rfl ?_
          refine zw_46r (s := 1) zr_76_72 rfl rfl rfl rfl ?_
          refine zw_46r (s := 7) zr_76_75 rfl rfl rfl rfl ?_
          refine zw_4 zr_76_78 rfl ?_
          refine zw_48 (c := 7) (len := 60) zr_76_80 rfl rfl (by omega) (by omega) ?_
          intro x19 ex19
          have bx19 := ib_7 hIm18 (k := (i3).toNat) (by omega)
          rw [← ex19] at bx19
          clear ex19
          refine zw_48 (c := 62) (len := 10) zr_76_81 rfl rfl (by omega) (by omega) ?_
          intro x20 ex20
          have bx20 := hIm18.ra (c := 62) (len := 10) (k := (x19).toNat) rfl (by omega)
          rw [← ex20] at bx20
          clear ex20
          refine zw_push zr_76_82 ?_
          refine zw_41_4 zr_76_83 ?_ ?_
          · intro h21
            refine zw_push zr_76_91 ?_
            refine zw_31h zr_76_92 ?_
            intro x22 hx22a hx22b
            refine zw_13 (L' := [(2, 60), (1, r1), (9, 0), (1, x22), (9, 0), (0, i3), (1, x10), (9, 0)]) zr_76_93 (Nat.le_of_ble_eq_true rfl) rfl ?_
            refine zw_15 (c := 1) (L' := [(2, 60), (1, r1), (9, 0), (1, x22), (9, 0), (0, (i3 + 1)), (1, x10), (9, 0)]) zr_76_94 rfl (by decide) (by omega) rfl ?_
            refine zw_42 zr_76_97 ?_
            exact zw_less (L := [(2, 60), (1, r1), (9, 0), (1, x22), (9, 0), (0, (i3 + 1)), (9, 0), (9, 0)]) ⟨Or.inr rfl, Or.inr rfl, Or.inl rfl, Or.inr rfl, Or.inl rfl, Or.inr rfl, Or.inl rfl, Or.inl rfl, trivial⟩ (ihlp13_5 (x22) ((i3 + 1)) m18 hIm18 hFm18   (by omega) (by omega) (by omega) (by omega) (by omega))
          · intro h23
            refine zw_6 zr_76_86 rfl ?_
            refine zw_42 zr_76_88 ?_
            refine zw_31h zr_76_92 ?_
            intro x24 hx24a hx24b
            refine zw_13 (L' := [(2, 60), (1, r1), (9, 0), (1, x24), (9, 0), (0, i3), (1, x10), (9, 0)]) zr_76_93 (Nat.le_of_ble_eq_true rfl) rfl ?_
            refine zw_15 (c := 1) (L' := [(2, 60), (1, r1), (9, 0), (1, x24), (9, 0), (0, (i3 + 1)), (1, x10), (9, 0)]) zr_76_94 rfl (by decide) (by omega) rfl ?_
            refine zw_42 zr_76_97 ?_
            exact zw_less (L := [(2, 60), (1, r1), (9, 0), (1, x24), (9, 0), (0, (i3 + 1)), (9, 0), (9, 0)]) ⟨Or.inr rfl, Or.inr rfl, Or.inl rfl, Or.inr rfl, Or.inl rfl, Or.inr rfl, Or.inl rfl, Or.inl rfl, trivial⟩ (ihlp13_5 (x24) ((i3 + 1)) m18 hIm18 hFm18   (by omega) (by omega) (by omega) (by omega) (by omega))
  exact lp13_5 _ (0) (0) m0 hI0 hF0   (by omega) (by omega) (by omega) (by omega) (Nat.lt_succ_self _)

abbrev W_122 : List (Nat × Nat) := [(61, 1000), (62, 1000)]
set_option maxHeartbeats 8000000 in
theorem th_122 {E : zE} {d : Nat} {m0 : zM} (hd : 4 ≤ d) (hI0 : zInv m0) : zC E d 122 [(2, 0)] m0 (fun v m' => ∃ r : Int, v = (1, r) ∧ (-9223372036854775808) ≤ r ∧ r ≤ 9223372036854775807 ∧ zInv m' ∧ zFr W_122 m0 m') := by
  have hF0 : zFr W_122 m0 m0 := zFr.rfl
  generalize hQ : (fun (v : zV) (m' : zM) => ∃ r : Int, v = (1, r) ∧ (-9223372036854775808) ≤ r ∧ r ≤ 9223372036854775807 ∧ zInv m' ∧ zFr W_122 m0 m') = Q
  show zW E d 122 0 [(2, 0)] [] m0 Q
  refine zw_7 zr_122_0 rfl ?_
  refine zw_46r (s := 60) zr_122_1 rfl rfl rfl rfl ?_
  refine zw_C zr_122_4 (Or.inl rfl) zm_76 rfl rfl ⟨Nat.le_of_ble_eq_true rfl, Nat.le_of_ble_eq_true rfl, Nat.le_of_ble_eq_true rfl, rfl, by decide⟩ (by omega) (th_76 (d := d - 1) (by omega) hI0    ) ?_
  rintro _ m1 ⟨r2, rfl, hr2a, hr2b, hIm1, gm1⟩
  have hFm1 : zFr W_122 m0 m1 := hF0.trans gm1 rfl
  show zW E (d) 122 7 [(2, 0)] [(1, r2)] m1 Q
  refine zw_R zr_122_7 (by decide) zm_122 (v := (1, r2)) rfl ?_
  rw [← hQ]; exact ⟨_, rfl, by omega, by omega, hIm1, hFm1⟩

abbrev W_192 : List (Nat × Nat) := [(81, 1000)]
set_option maxHeartbeats 8000000 in
theorem th_192 {E : zE} {d : Nat} {m0 : zM} (hd : 4 ≤ d) (hI0 : zInv m0) : zC E d 192 [(2, 69)] m0 (fun v m' => ∃ r : Int, v = (1, r) ∧ (-9223372036854775808) ≤ r ∧ r ≤ 9223372036854775807 ∧ zInv m' ∧ zFr W_192 m0 m') := by
  have hF0 : zFr W_192 m0 m0 := zFr.rfl
  generalize hQ : (fun (v : zV) (m' : zM) => ∃ r : Int, v = (1, r) ∧ (-9223372036854775808) ≤ r ∧ r ≤ 9223372036854775807 ∧ zInv m' ∧ zFr W_192 m0 m') = Q
  show zW E d 192 0 [(2, 69), (9, 0), (9, 0), (9, 0)] [] m0 Q
  refine zw_push zr_192_0 ?_
  refine zw_13 (L' := [(2, 69), (1, 0), (9, 0), (9, 0)]) zr_192_1 (Nat.le_of_ble_eq_true rfl) rfl ?_
  refine zw_push zr_192_2 ?_
  refine zw_9 (L' := [(2, 69), (1, 0), (9, 0), (0, 0)]) zr_192_3 (Nat.le_of_ble_eq_true rfl) rfl ?_
  have lp4_4 : ∀ (nlp4_4 : Nat) (i1 i2 : Int) (m3 : zM), zInv m3 → zFr W_192 m0 m3 → (-9223372036854775808) ≤ i1 → i1 ≤ 9223372036854775807 → 0 ≤ i2 → i2 ≤ 60 → (60 - i2).toNat < nlp4_4 → zW E (d) 192 4 [(2, 69), (1, i1), (9, 0), (0, i2)] [] m3 Q := by
    intro nlp4_4
    induction nlp4_4 with
    | zero =>
      intros
      exact absurd (by assumption : _ < 0) (Nat.not_lt_zero _)
    | succ nlp4_4 ihlp4_4 =>
      intro i1 i2 m3 hIm3 hFm3 li1 ui1 li2 ui2 hmlp4_4
      refine zw_3 zr_192_4 rfl ?_
      refine zw_7 zr_192_5 rfl ?_
      refine zw_C zr_192_6 (Or.inl rfl) zm_142 rfl rfl ⟨Nat.le_of_ble_eq_true rfl, Nat.le_of_ble_eq_true rfl, Nat.le_of_ble_eq_true rfl, rfl, by decide⟩ (by omega) (P := (fun v m' => zW E (d) 192 9 [(2, 69), (1, i1), (9, 0), (0, i2)] (if v.1 = 9 then [(0, i2)] else v :: [(0, i2)]) m' Q)) ?_ (fun _ _ h => h)
      generalize hQ1 : (fun v m' => zW E (d) 192 9 [(2, 69), (1, i1), (9, 0), (0, i2)] (if v.1 = 9 then [(0, i2)] else v :: [(0, i2)]) m' Q) = Q1
      show zW E (d - 1) 142 0 [(2, 69)] [] m3 Q1
      refine zw_7 zr_142_0 rfl ?_
      refine zw_46r (s := 70) zr_142_1 rfl rfl rfl rfl ?_
      refine zw_push zr_142_4 ?_
      obtain ⟨f6, ef6⟩ : ∃ v, m3 70 823 = v := ⟨_, rfl⟩
      have bf6 : 0 ≤ m3 70 823 ∧ m3 70 823 ≤ 60 := ib_70_meetings hIm3 (by omega)
      rw [ef6] at bf6
      refine zw_48k (c := 70) (len := 826) zr_142_7 rfl rfl (by omega) (by omega) (show (823 : Int).toNat = 823 by omega) ef6 ?_
      refine zw_R zr_142_8 (by decide) zm_142 (v := (0, f6)) rfl ?_
      rw [← hQ1]
      show zW E (d) 192 9 [(2, 69), (1, i1), (9, 0), (0, i2)] [(0, f6), (0, i2)] m3 Q
      refine zw_41_3 zr_192_9 ?_ ?_
      · intro h7
        refine zw_5 zr_192_63 rfl ?_
        refine zw_R zr_192_64 (by decide) zm_192 (v := (1, i1)) rfl ?_
        rw [← hQ]; exact ⟨_, rfl, by omega, by omega, hIm3, hFm3⟩
      · intro h8
        refine zw_7 zr_192_12 rfl ?_
        refine zw_3 zr_192_13 rfl ?_
        refine zw_C zr_192_14 (Or.inl rfl) zm_181 rfl rfl ⟨Nat.le_of_ble_eq_true rfl, Nat.le_of_ble_eq_true rfl, Nat.le_of_ble_eq_true rfl, rfl, by decide⟩ (by omega) (P := (fun v m' => zW E (d) 192 17 [(2, 69), (1, i1), (9, 0), (0, i2)] (if v.1 = 9 then [] else v :: []) m' Q)) ?_ (fun _ _ h => h)
        generalize hQ1 : (fun v m' => zW E (d) 192 17 [(2, 69), (1, i1), (9, 0), (0, i2)] (if v.1 = 9 then [] else v :: []) m' Q) = Q1
        show zW E (d - 1) 181 0 [(2, 69), (0, i2)] [] m3 Q1
        refine zw_7 zr_181_0 rfl ?_
        refine zw_3 zr_181_1 rfl ?_
        refine zw_push zr_181_2 ?_
        refine zw_C zr_181_3 (Or.inl rfl) zm_144 rfl rfl ⟨Nat.le_of_ble_eq_true rfl, Nat.le_of_ble_eq_true rfl, Nat.le_of_ble_eq_true rfl, rfl, by decide⟩ (by omega) (P := (fun v m' => zW E (d - 1) 181 6 [(2, 69), (0, i2)] (if v.1 = 9 then [] else v :: []) m' Q1)) ?_ (fun _ _ h => h)
        generalize hQ2 : (fun v m' => zW E (d - 1) 181 6 [(2, 69), (0, i2)] (if v.1 = 9 then [] else v :: []) m' Q1) = Q2
        show zW E (d - 1 - 1) 144 0 [(2, 69), (0, i2), (0, 4)] [] m3 Q2
        refine zw_7 zr_144_0 rfl ?_
        refine zw_46r (s := 70) zr_144_1 rfl rfl rfl rfl ?_
        refine zw_push zr_144_4 ?_
        refine zw_push zr_144_6 ?_
        refine zw_3 zr_144_8 rfl ?_
        refine zw_18 zr_144_9 (by omega) ?_
        refine zw_16 zr_144_10 (by omega) ?_
        refine zw_3 zr_144_11 rfl ?_
        refine zw_16 zr_144_12 (by omega) ?_
        refine zw_48 (c := 70) (len := 826) zr_144_13 rfl rfl (by omega) (by omega) ?_
        intro x9 ex9
        have bx9 := ib_70_m4 hIm3 (k := (((90 + (6 * i2)) + 4)).toNat) (by omega)
        rw [← ex9] at bx9
        clear ex9
        refine zw_R zr_144_14 (by decide) zm_144 (v := (0, x9)) rfl ?_
        rw [← hQ2]
        show zW E (d - 1) 181 6 [(2, 69), (0, i2)] [(0, x9)] m3 Q1
        refine zw_40_4 zr_181_6 ?_ ?_
        · intro h10
          refine zw_push zr_181_22 ?_
          refine zw_R zr_181_23 (by decide) zm_181 (v := (0, 0)) (zRetB (by omega)) ?_
          rw [← hQ1]
          show zW E (d) 192 17 [(2, 69), (1, i1), (9, 0), (0, i2)] [(0, 0)] m3 Q
          refine zw_40_1 zr_192_17 ?_ ?_
          · intro h11
            refine zw_15 (c := 1) (L' := [(2, 69), (1, i1), (9, 0), (0, (i2 + 1))]) zr_192_57 rfl (by decide) (by omega) rfl ?_
            refine zw_42 zr_192_60 ?_
            exact zw_less (L := [(2, 69), (1, i1), (9, 0), (0, (i2 + 1))]) ⟨Or.inr rfl, Or.inr rfl, Or.inl rfl, Or.inr rfl, trivial⟩ (ihlp4_4 (i1) ((i2 + 1)) m3 hIm3 hFm3   (by omega) (by omega) (by omega) (by omega) (by omega))
          · intro h12; omega
        · intro h13
          refine zw_7 zr_181_9 rfl ?_
          refine zw_3 zr_181_10 rfl ?_
          refine zw_push zr_181_11 ?_
          refine zw_C zr_181_12 (Or.inl rfl) zm_144 rfl rfl ⟨Nat.le_of_ble_eq_true rfl, Nat.le_of_ble_eq_true rfl, Nat.le_of_ble_eq_true rfl, rfl, by decide⟩ (by omega) (P := (fun v m' => zW E (d - 1) 181 15 [(2, 69), (0, i2)] (if v.1 = 9 then [] else v :: []) m' Q1)) ?_ (fun _ _ h => h)
          generalize hQ2 : (fun v m' => zW E (d - 1) 181 15 [(2, 69), (0, i2)] (if v.1 = 9 then [] else v :: []) m' Q1) = Q2
          show zW E (d - 1 - 1) 144 0 [(2, 69), (0, i2), (0, 5)] [] m3 Q2
          refine zw_7 zr_144_0 rfl ?_
          refine zw_46r (s := 70) zr_144_1 rfl rfl rfl rfl ?_
          refine zw_push zr_144_4 ?_
          refine zw_push zr_144_6 ?_
          refine zw_3 zr_144_8 rfl ?_
          refine zw_18 zr_144_9 (by omega) ?_
          refine zw_16 zr_144_10 (by omega) ?_
          refine zw_3 zr_144_11 rfl ?_
          refine zw_16 zr_144_12 (by omega) ?_
          refine zw_48 (c := 70) (len := 826) zr_144_13 rfl rfl (by omega) (by omega) ?_
          intro x14 ex14
          have bx14 := ib_70_m5 hIm3 (k := (((90 + (6 * i2)) + 5)).toNat) (by omega)
          rw [← ex14] at bx14
          clear ex14
          refine zw_R zr_144_14 (by decide) zm_144 (v := (0, x14)) rfl ?_
          rw [← hQ2]
          show zW E (d - 1) 181 15 [(2, 69), (0, i2)] [(0, x14)] m3 Q1
          refine zw_40_4 zr_181_15 ?_ ?_
          · intro h15
            refine zw_push zr_181_22 ?_
            refine zw_R zr_181_23 (by decide) zm_181 (v := (0, 0)) (zRetB (by omega)) ?_
            rw [← hQ1]
            show zW E (d) 192 17 [(2, 69), (1, i1), (9, 0), (0, i2)] [(0, 0)] m3 Q
            refine zw_40_1 zr_192_17 ?_ ?_
            · intro h16
              refine zw_15 (c := 1) (L' := [(2, 69), (1, i1), (9, 0), (0, (i2 + 1))]) zr_192_57 rfl (by decide) (by omega) rfl ?_
              refine zw_42 zr_192_60 ?_
              exact zw_less (L := [(2, 69), (1, i1), (9, 0), (0, (i2 + 1))]) ⟨Or.inr rfl, Or.inr rfl, Or.inl rfl, Or.inr rfl, trivial⟩ (ihlp4_4 (i1) ((i2 + 1)) m3 hIm3 hFm3   (by omega) (by omega) (by omega) (by omega) (by omega))
            · intro h17; omega
          · intro h18
            refine zw_push zr_181_18 ?_
            refine zw_42 zr_181_19 ?_
            refine zw_R zr_181_23 (by decide) zm_181 (v := (0, 1)) (zRetB (by omega)) ?_
            rw [← hQ1]
            show zW E (d) 192 17 [(2, 69), (1, i1), (9, 0), (0, i2)] [(0, 1)] m3 Q
            refine zw_40_1 zr_192_17 ?_ ?_
            · intro h19; omega
            · intro h20
              refine zw_7 zr_192_20 rfl ?_
              refine zw_7 zr_192_21 rfl ?_
              refine zw_3 zr_192_22 rfl ?_
              refine zw_push zr_192_23 ?_
              refine zw_C zr_192_24 (Or.inl rfl) zm_144 rfl rfl ⟨Nat.le_of_ble_eq_true rfl, Nat.le_of_ble_eq_true rfl, Nat.le_of_ble_eq_true rfl, rfl, by decide⟩ (by omega) (P := (fun v m' => zW E (d) 192 27 [(2, 69), (1, i1), (9, 0), (0, i2)] (if v.1 = 9 then [(2, 69)] else v :: [(2, 69)]) m' Q)) ?_ (fun _ _ h => h)
              generalize hQ1 : (fun v m' => zW E (d) 192 27 [(2, 69), (1, i1), (9, 0), (0, i2)] (if v.1 = 9 then [(2, 69)] else v :: [(2, 69)]) m' Q) = Q1
              show zW E (d - 1) 144 0 [(2, 69), (0, i2), (0, 1)] [] m3 Q1
              refine zw_7 zr_144_0 rfl ?_
              refine zw_46r (s := 70) zr_144_1 rfl rfl rfl rfl ?_
              refine zw_push zr_144_4 ?_
              refine zw_push zr_144_6 ?_
              refine zw_3 zr_144_8 rfl ?_
              refine zw_18 zr_144_9 (by omega) ?_
              refine zw_16 zr_144_10 (by omega) ?_
              refine zw_3 zr_144_11 rfl ?_
              refine zw_16 zr_144_12 (by omega) ?_
              refine zw_48 (c := 70) (len := 826) zr_144_13 rfl rfl (by omega) (by omega) ?_
              intro x21 ex21
              have bx21 := ib_70_m1 hIm3 (k := (((90 + (6 * i2)) + 1)).toNat) (by omega)
              rw [← ex21] at bx21
              clear ex21
              refine zw_R zr_144_14 (by decide) zm_144 (v := (0, x21)) rfl ?_
              rw [← hQ1]
              show zW E (d) 192 27 [(2, 69), (1, i1), (9, 0), (0, i2)] [(0, x21), (2, 69)] m3 Q
              refine zw_3 zr_192_27 rfl ?_
              refine zw_C zr_192_28 (Or.inl rfl) zm_188 rfl rfl ⟨Nat.le_of_ble_eq_true rfl, Nat.le_of_ble_eq_true rfl, Nat.le_of_ble_eq_true rfl, rfl, by decide⟩ (by omega) (th_188 (d := d - 1) (by omega) hIm3 (a0 := x21) (a1 := i2)   (by omega) (by omega)) ?_
              rintro _ m22 ⟨rfl, hIm22, gm22⟩
              have hFm22 : zFr W_192 m0 m22 := hFm3.trans gm22 rfl
              have km22_70_823 : m22 70 823 = f6 := (gm22 70 823 rfl).trans ef6
              show zW E (d) 192 31 [(2, 69), (1, i1), (9, 0), (0, i2)] [] m22 Q
              refine zw_5 zr_192_31 rfl ?_
              refine zw_7 zr_192_32 rfl ?_
              refine zw_46r (s := 81) zr_192_33 rfl rfl rfl rfl ?_
              refine zw_7 zr_192_36 rfl ?_
              refine zw_3 zr_192_37 rfl ?_
              refine zw_push zr_192_38 ?_
              refine zw_C zr_192_39 (Or.inl rfl) zm_144 rfl rfl ⟨Nat.le_of_ble_eq_true rfl, Nat.le_of_ble_eq_true rfl, Nat.le_of_ble_eq_true rfl, rfl, by decide⟩ (by omega) (P := (fun v m' => zW E (d) 192 42 [(2, 69), (1, i1), (9, 0), (0, i2)] (if v.1 = 9 then [(2, 81), (1, i1)] else v :: [(2, 81), (1, i1)]) m' Q)) ?_ (fun _ _ h => h)
              generalize hQ1 : (fun v m' => zW E (d) 192 42 [(2, 69), (1, i1), (9, 0), (0, i2)] (if v.1 = 9 then [(2, 81), (1, i1)] else v :: [(2, 81), (1, i1)]) m' Q) = Q1
              show zW E (d - 1) 144 0 [(2, 69), (0, i2), (0, 2)] [] m22 Q1
              refine zw_7 zr_144_0 rfl ?_
              refine zw_46r (s := 70) zr_144_1 rfl rfl rfl rfl ?_
              refine zw_push zr_144_4 ?_
              refine zw_push zr_144_6 ?_
              refine zw_3 zr_144_8 rfl ?_
              refine zw_18 zr_144_9 (by omega) ?_
              refine zw_16 zr_144_10 (by omega) ?_
              refine zw_3 zr_144_11 rfl ?_
              refine zw_16 zr_144_12 (by omega) ?_
              refine zw_48 (c := 70) (len := 826) zr_144_13 rfl rfl (by omega) (by omega) ?_
              intro x23 ex23
              have bx23 := ib_70_m2 hIm22 (k := (((90 + (6 * i2)) + 2)).toNat) (by omega)
              rw [← ex23] at bx23
              clear ex23
              refine zw_R zr_144_14 (by decide) zm_144 (v := (0, x23)) rfl ?_
              rw [← hQ1]
              show zW E (d) 192 42 [(2, 69), (1, i1), (9, 0), (0, i2)] [(0, x23), (2, 81), (1, i1)] m22 Q
              refine zw_48 (c := 81) (len := 10) zr_192_42 rfl rfl (by omega) (by omega) ?_
              intro x24 ex24
              have bx24 := hIm22.ra (c := 81) (len := 10) (k := (x23).toNat) rfl (by omega)
              rw [← ex24] at bx24
              clear ex24
              refine zw_push zr_192_43 ?_
              refine zw_41_0 zr_192_45 ?_ ?_
              · intro h25
                refine zw_push zr_192_54 ?_
                refine zw_31h zr_192_55 ?_
                intro x26 hx26a hx26b
                refine zw_13 (L' := [(2, 69), (1, x26), (9, 0), (0, i2)]) zr_192_56 (Nat.le_of_ble_eq_true rfl) rfl ?_
                refine zw_15 (c := 1) (L' := [(2, 69), (1, x26), (9, 0), (0, (i2 + 1))]) zr_192_57 rfl (by decide) (by omega) rfl ?_
                refine zw_42 zr_192_60 ?_
                exact zw_less (L := [(2, 69), (1, x26), (9, 0), (0, (i2 + 1))]) ⟨Or.inr rfl, Or.inr rfl, Or.inl rfl, Or.inr rfl, trivial⟩ (ihlp4_4 (x26) ((i2 + 1)) m22 hIm22 hFm22   (by omega) (by omega) (by omega) (by omega) (by omega))
              · intro h27
                refine zw_push zr_192_48 ?_
                refine zw_3 zr_192_49 rfl ?_
                refine zw_33h zr_192_50 ?_
                intro x28 hx28a hx28b
                refine zw_42 zr_192_51 ?_
                refine zw_31h zr_192_55 ?_
                intro x29 hx29a hx29b
                refine zw_13 (L' := [(2, 69), (1, x29), (9, 0), (0, i2)]) zr_192_56 (Nat.le_of_ble_eq_true rfl) rfl ?_
                refine zw_15 (c := 1) (L' := [(2, 69), (1, x29), (9, 0), (0, (i2 + 1))]) zr_192_57 rfl (by decide) (by omega) rfl ?_
                refine zw_42 zr_192_60 ?_
                exact zw_less (L := [(2, 69), (1, x29), (9, 0), (0, (i2 + 1))]) ⟨Or.inr rfl, Or.inr rfl, Or.inl rfl, Or.inr rfl, trivial⟩ (ihlp4_4 (x29) ((i2 + 1)) m22 hIm22 hFm22   (by omega) (by omega) (by omega) (by omega) (by omega))
  exact lp4_4 _ (0) (0) m0 hI0 hF0   (by omega) (by omega) (by omega) (by omega) (Nat.lt_succ_self _)

abbrev W_4_54 : List (Nat × Nat) := [(54, 1000)]
set_option maxHeartbeats 8000000 in
theorem th_4_54 {E : zE} {d : Nat} {m0 : zM} {a0 : Int} (hd : 1 ≤ d) (hI0 : zInv m0) (ha0 : 0 ≤ a0 ∧ a0 ≤ 0) : zC E d 4 [(2, 54), (0, a0)] m0 (fun v m' => v = (9, 0) ∧ zInv m' ∧ zFr W_4_54 m0 m') := by
  have hF0 : zFr W_4_54 m0 m0 := zFr.rfl
  generalize hQ : (fun (v : zV) (m' : zM) => v = (9, 0) ∧ zInv m' ∧ zFr W_4_54 m0 m') = Q
  show zW E d 4 0 [(2, 54), (0, a0), (9, 0), (9, 0)] [] m0 Q
  refine zw_push zr_4_0 ?_
  refine zw_9 (L' := [(2, 54), (0, a0), (0, 0), (9, 0)]) zr_4_1 (Nat.le_of_ble_eq_true rfl) rfl ?_
  refine zw_7 zr_4_2 rfl ?_
  refine zw_101 (c := 54) (len := 10) zr_4_3 rfl rfl (by decide) ?_
  refine zw_9 (L' := [(2, 54), (0, a0), (0, 0), (0, 10)]) zr_4_4 (Nat.le_of_ble_eq_true rfl) rfl ?_
  have lp5_3 : ∀ (nlp5_3 : Nat) (i1 : Int) (m2 : zM), zInv m2 → zFr W_4_54 m0 m2 → 0 ≤ i1 → i1 ≤ 10 → (10 - i1).toNat < nlp5_3 → zW E (d) 4 5 [(2, 54), (0, a0), (0, i1), (0, 10)] [] m2 Q := by
    intro nlp5_3
    induction nlp5_3 with
    | zero =>
      intros
      exact absurd (by assumption : _ < 0) (Nat.not_lt_zero _)
    | succ nlp5_3 ihlp5_3 =>
      intro i1 m2 hIm2 hFm2 li1 ui1 hmlp5_3
      refine zw_3 zr_4_5 rfl ?_
      refine zw_3 zr_4_6 rfl ?_
      refine zw_41_3 zr_4_7 ?_ ?_
      · intro h5
        refine zw_R zr_4_20 (by decide) zm_4 (v := (9, 0)) rfl ?_
        rw [← hQ]; exact ⟨rfl, hIm2, hFm2⟩
      · intro h6
        refine zw_7 zr_4_10 rfl ?_
        refine zw_3 zr_4_11 rfl ?_
        refine zw_3 zr_4_12 rfl ?_
        refine zw_49 (c := 54) (len := 10) zr_4_13 rfl rfl (by omega) (by omega) ?_
        intro m7 em7
        have hIm7 : zInv m7 := by rw [em7]; exact hIm2.any (by omega) rfl (by decide) (by decide)
        have hFm7 : zFr W_4_54 m0 m7 := by rw [em7]; exact hFm2.any rfl
        clear em7
        refine zw_15 (c := 1) (L' := [(2, 54), (0, a0), (0, (i1 + 1)), (0, 10)]) zr_4_14 rfl (by decide) (by omega) rfl ?_
        refine zw_42 zr_4_17 ?_
        exact zw_less (L := [(2, 54), (0, a0), (0, (i1 + 1)), (0, 10)]) ⟨Or.inr rfl, Or.inr rfl, Or.inr rfl, Or.inr rfl, trivial⟩ (ihlp5_3 ((i1 + 1)) m7 hIm7 hFm7   (by omega) (by omega) (by omega))
  exact lp5_3 _ (0) m0 hI0 hF0   (by omega) (by omega) (Nat.lt_succ_self _)

abbrev W_193 : List (Nat × Nat) := [(69, 5), (69, 6), (69, 7), (69, 9), (69, 11), (69, 13), (69, 17), (69, 18), (69, 23), (73, 1000), (74, 1000), (75, 1000), (76, 1000), (77, 1000), (78, 1000), (82, 1000)]
set_option maxHeartbeats 8000000 in
theorem th_193 {E : zE} {d : Nat} {m0 : zM} {a0 : Int} {a1 : Int} (hd : 10 ≤ d) (hI0 : zInv m0) (ha0 : 0 ≤ a0 ∧ a0 ≤ 3) (ha1 : 0 ≤ a1 ∧ a1 ≤ 9) : zC E d 193 [(2, 69), (0, a0), (0, a1)] m0 (fun v m' => v = (9, 0) ∧ zInv m' ∧ zFr W_193 m0 m') := by
  have hF0 : zFr W_193 m0 m0 := zFr.rfl
  generalize hQ : (fun (v : zV) (m' : zM) => v = (9, 0) ∧ zInv m' ∧ zFr W_193 m0 m') = Q
  show zW E d 193 0 [(2, 69), (0, a0), (0, a1), (9, 0)] [] m0 Q
  refine zw_7 zr_193_0 rfl ?_
  refine zw_push zr_193_1 ?_
  refine zw_47 (c := 69) zr_193_2 rfl ⟨rfl, by decide, rfl⟩ ?_
  intro m1 em1
  have hIm1 : zInv m1 := by rw [em1]; exact hI0.bd (r := 69) (k := 23) (lo := 0) (hi := 100) rfl (by omega) (by decide) (by decide) (by decide)
  have hFm1 : zFr W_193 m0 m1 := by rw [em1]; exact hF0.up rfl
  have km1_69_23 : m1 69 23 = 0 := by rw [em1]; exact zUp_eq _ _ _ _
  clear em1
  refine zw_push zr_193_5 ?_
  refine zw_9 (L' := [(2, 69), (0, a0), (0, a1), (0, 0)]) zr_193_6 (Nat.le_of_ble_eq_true rfl) rfl ?_
  have lp7_5 : ∀ (nlp7_5 : Nat) (i2 p4 : Int) (m3 : zM), zInv m3 → zFr W_193 m0 m3 → m3 69 23 = p4 → 0 ≤ i2 → i2 ≤ 100 → 0 ≤ p4 → p4 ≤ 100 → (p4 ≤ i2) → (100 - i2).toNat < nlp7_5 → zW E (d) 193 7 [(2, 69), (0, a0), (0, a1), (0, i2)] [] m3 Q := by
    intro nlp7_5
    induction nlp7_5 with
    | zero =>
      intros
      exact absurd (by assumption : _ < 0) (Nat.not_lt_zero _)
    | succ nlp7_5 ihlp7_5 =>
      intro i2 p4 m3 hIm3 hFm3 km3_69_23 li2 ui2 lp4 up4 hv0lp7_5 hmlp7_5
      refine zw_3 zr_193_7 rfl ?_
      refine zw_push zr_193_8 ?_
      refine zw_41_3 zr_193_10 ?_ ?_
      · intro h7
        refine zw_R zr_193_59 (by decide) zm_193 (v := (9, 0)) rfl ?_
        rw [← hQ]; exact ⟨rfl, hIm3, hFm3⟩
      · intro h8
        refine zw_7 zr_193_13 rfl ?_
        refine zw_3 zr_193_14 rfl ?_
        refine zw_3 zr_193_15 rfl ?_
        refine zw_C zr_193_16 (Or.inl rfl) zm_172 rfl rfl ⟨Nat.le_of_ble_eq_true rfl, Nat.le_of_ble_eq_true rfl, Nat.le_of_ble_eq_true rfl, rfl, by decide⟩ (by omega) (th_172 (d := d - 1) (by omega) hIm3 (a0 := a1) (a1 := i2)   (by omega) (by omega)) ?_
        rintro _ _ ⟨r9, rfl, hr9a, hr9b, rfl⟩
        show zW E (d) 193 19 [(2, 69), (0, a0), (0, a1), (0, i2)] [(0, r9)] m3 Q
        refine zw_40_1 zr_193_19 ?_ ?_
        · intro h10
          refine zw_15 (c := 1) (L' := [(2, 69), (0, a0), (0, a1), (0, (i2 + 1))]) zr_193_53 rfl (by decide) (by omega) rfl ?_
          refine zw_42 zr_193_56 ?_
          exact zw_less (L := [(2, 69), (0, a0), (0, a1), (0, (i2 + 1))]) ⟨Or.inr rfl, Or.inr rfl, Or.inr rfl, Or.inr rfl, trivial⟩ (ihlp7_5 ((i2 + 1)) (p4) m3 hIm3 hFm3  km3_69_23 (by omega) (by omega) (by omega) (by omega) (by omega) (by omega))
        · intro h11
          refine zw_7 zr_193_22 rfl ?_
          refine zw_3 zr_193_23 rfl ?_
          refine zw_3 zr_193_24 rfl ?_
          refine zw_C zr_193_25 (Or.inl rfl) zm_167 rfl rfl ⟨Nat.le_of_ble_eq_true rfl, Nat.le_of_ble_eq_true rfl, Nat.le_of_ble_eq_true rfl, rfl, by decide⟩ (by omega) (th_167 (d := d - 1) (by omega) hIm3 (a0 := a0) (a1 := i2)   (by omega) (by omega)) ?_
          rintro _ m12 ⟨rfl, hIm12, gm12⟩
          have hFm12 : zFr W_193 m0 m12 := hFm3.trans gm12 rfl
          have km12_69_23 : m12 69 23 = p4 := (gm12 69 23 rfl).trans km3_69_23
          show zW E (d) 193 28 [(2, 69), (0, a0), (0, a1), (0, i2)] [] m12 Q
          refine zw_7 zr_193_28 rfl ?_
          refine zw_46r (s := 82) zr_193_29 rfl rfl rfl rfl ?_
          refine zw_7 zr_193_32 rfl ?_
          refine zw_46i zr_193_33 km12_69_23 rfl rfl rfl ?_
          refine zw_7 zr_193_36 rfl ?_
          refine zw_46r (s := 76) zr_193_37 rfl rfl rfl rfl ?_
          refine zw_3 zr_193_40 rfl ?_
          refine zw_48 (c := 76) (len := 10) zr_193_41 rfl rfl (by omega) (by omega) ?_
          intro x13 ex13
          have bx13 := hIm12.ra (c := 76) (len := 10) (k := (a1).toNat) rfl (by omega)
          rw [← ex13] at bx13
          clear ex13
          refine zw_49 (c := 82) (len := 100) zr_193_42 rfl rfl (by omega) (by omega) ?_
          intro m14 em14
          have hIm14 : zInv m14 := by rw [em14]; exact hIm12.any (by omega) rfl (by decide) (by decide)
          have hFm14 : zFr W_193 m0 m14 := by rw [em14]; exact hFm12.any rfl
          have km14_69_23 : m14 69 23 = p4 := by rw [em14, zUp_ne (by omega)]; exact km12_69_23
          clear em14
          refine zw_7 zr_193_43 rfl ?_
          refine zw_43 zr_193_44 rfl ?_
          refine zw_46i zr_193_45 km14_69_23 rfl rfl rfl ?_
          refine zw_push zr_193_48 ?_
          refine zw_16 zr_193_49 (by omega) ?_
          refine zw_47 (c := 69) zr_193_50 rfl ⟨rfl, by decide, rfl⟩ ?_
          intro m15 em15
          have hIm15 : zInv m15 := by rw [em15]; exact hIm14.bd (r := 69) (k := 23) (lo := 0) (hi := 100) rfl (by omega) (by decide) (by decide) (by decide)
          have hFm15 : zFr W_193 m0 m15 := by rw [em15]; exact hFm14.up rfl
          have km15_69_23 : m15 69 23 = (p4 + 1) := by rw [em15]; exact zUp_eq _ _ _ _
          clear em15
          refine zw_15 (c := 1) (L' := [(2, 69), (0, a0), (0, a1), (0, (i2 + 1))]) zr_193_53 rfl (by decide) (by omega) rfl ?_
          refine zw_42 zr_193_56 ?_
          exact zw_less (L := [(2, 69), (0, a0), (0, a1), (0, (i2 + 1))]) ⟨Or.inr rfl, Or.inr rfl, Or.inr rfl, Or.inr rfl, trivial⟩ (ihlp7_5 ((i2 + 1)) ((p4 + 1)) m15 hIm15 hFm15  km15_69_23 (by omega) (by omega) (by omega) (by omega) (by omega) (by omega))
  exact lp7_5 _ (0) (0) m1 hIm1 hFm1  km1_69_23 (by omega) (by omega) (by omega) (by omega) (by omega) (Nat.lt_succ_self _)

abbrev W_194 : List (Nat × Nat) := [(69, 5), (69, 6), (69, 7), (69, 9), (69, 11), (69, 13), (69, 17), (69, 18), (69, 23), (69, 24), (73, 1000), (74, 1000), (75, 1000), (76, 1000), (77, 1000), (78, 1000), (82, 1000)]
set_option maxHeartbeats 8000000 in
theorem th_194 {E : zE} {d : Nat} {m0 : zM} {a0 : Int} {a1 : Int} {a2 : Int} (hd : 11 ≤ d) (hI0 : zInv m0) (ha0 : 0 ≤ a0 ∧ a0 ≤ 3) (ha1 : 0 ≤ a1 ∧ a1 ≤ 9) (ha2 : (-2147483648) ≤ a2 ∧ a2 ≤ 2147483647) : zC E d 194 [(2, 69), (0, a0), (0, a1), (0, a2)] m0 (fun v m' => ∃ r : Int, v = (0, r) ∧ 0 ≤ r ∧ r ≤ 1 ∧ zInv m' ∧ zFr W_194 m0 m') := by
  have hF0 : zFr W_194 m0 m0 := zFr.rfl
  generalize hQ : (fun (v : zV) (m' : zM) => ∃ r : Int, v = (0, r) ∧ 0 ≤ r ∧ r ≤ 1 ∧ zInv m' ∧ zFr W_194 m0 m') = Q
  show zW E d 194 0 [(2, 69), (0, a0), (0, a1), (0, a2), (9, 0), (9, 0), (9, 0)] [] m0 Q
  refine zw_7 zr_194_0 rfl ?_
  refine zw_3 zr_194_1 rfl ?_
  refine zw_3 zr_194_2 rfl ?_
  refine zw_C zr_194_3 (Or.inl rfl) zm_193 rfl rfl ⟨Nat.le_of_ble_eq_true rfl, Nat.le_of_ble_eq_true rfl, Nat.le_of_ble_eq_true rfl, rfl, by decide⟩ (by omega) (th_193 (d := d - 1) (by omega) hI0 (a0 := a0) (a1 := a1)   (by omega) (by omega)) ?_
  rintro _ m1 ⟨rfl, hIm1, gm1⟩
  have hFm1 : zFr W_194 m0 m1 := hF0.trans gm1 rfl
  show zW E (d) 194 6 [(2, 69), (0, a0), (0, a1), (0, a2), (9, 0), (9, 0), (9, 0)] [] m1 Q
  refine zw_push zr_194_6 ?_
  refine zw_10 (L' := [(2, 69), (0, a0), (0, a1), (0, a2), (0, 0), (9, 0), (9, 0)]) zr_194_7 (Nat.le_of_ble_eq_true rfl) rfl ?_
  have lp9_4 : ∀ (nlp9_4 : Nat) (i2 : Int) (m3 : zM), zInv m3 → zFr W_194 m0 m3 → (-2147483648) ≤ i2 → i2 ≤ 2147483647 → (2147483647 - i2).toNat < nlp9_4 → zW E (d) 194 9 [(2, 69), (0, a0), (0, a1), (0, a2), (0, i2), (9, 0), (9, 0)] [] m3 Q := by
    intro nlp9_4
    induction nlp9_4 with
    | zero =>
      intros
      exact absurd (by assumption : _ < 0) (Nat.not_lt_zero _)
    | succ nlp9_4 ihlp9_4 =>
      intro i2 m3 hIm3 hFm3 li2 ui2 hmlp9_4
      refine zw_4 zr_194_9 rfl ?_
      refine zw_3 zr_194_11 rfl ?_
      refine zw_16h zr_194_12 ?_
      intro x6 hx6a hx6b
      refine zw_7 zr_194_13 rfl ?_
      obtain ⟨f7, ef7⟩ : ∃ v, m3 69 23 = v := ⟨_, rfl⟩
      have bf7 := ib_69_23 hIm3
      rw [ef7] at bf7
      refine zw_46i zr_194_14 ef7 rfl rfl rfl ?_
      refine zw_41_2 zr_194_17 ?_ ?_
      · intro h8
        refine zw_7 zr_194_107 rfl ?_
        refine zw_46i zr_194_108 ef7 rfl rfl rfl ?_
        refine zw_3 zr_194_111 rfl ?_
        refine zw_41_0 zr_194_112 ?_ ?_
        · intro h9
          refine zw_push zr_194_119 ?_
          refine zw_R zr_194_120 (by decide) zm_194 (v := (0, 0)) (zRetB (by omega)) ?_
          rw [← hQ]; exact ⟨_, rfl, by omega, by omega, hIm3, hFm3⟩
        · intro h10
          refine zw_push zr_194_115 ?_
          refine zw_42 zr_194_116 ?_
          refine zw_R zr_194_120 (by decide) zm_194 (v := (0, 1)) (zRetB (by omega)) ?_
          rw [← hQ]; exact ⟨_, rfl, by omega, by omega, hIm3, hFm3⟩
      · intro h11
        refine zw_7 zr_194_20 rfl ?_
        refine zw_46r (s := 82) zr_194_21 rfl rfl rfl rfl ?_
        refine zw_4 zr_194_24 rfl ?_
        refine zw_48 (c := 82) (len := 100) zr_194_26 rfl rfl (by omega) (by omega) ?_
        intro x12 ex12
        have bx12 := hIm3.ra (c := 82) (len := 100) (k := (i2).toNat) rfl (by omega)
        rw [← ex12] at bx12
        clear ex12
        refine zw_10 (L' := [(2, 69), (0, a0), (0, a1), (0, a2), (0, i2), (0, x12), (9, 0)]) zr_194_27 (Nat.le_of_ble_eq_true rfl) rfl ?_
        refine zw_4 zr_194_29 rfl ?_
        refine zw_10 (L' := [(2, 69), (0, a0), (0, a1), (0, a2), (0, i2), (0, x12), (0, i2)]) zr_194_31 (Nat.le_of_ble_eq_true rfl) rfl ?_
        have lp33_15 : ∀ (nlp33_15 : Nat) (i13 i14 : Int), (-2147483648) ≤ i13 → i13 ≤ 2147483647 → (-2147483648) ≤ i14 → i14 ≤ 2147483647 → (2147483647 - i14).toNat < nlp33_15 → zW E (d) 194 33 [(2, 69), (0, a0), (0, a1), (0, a2), (0, i2), (0, i13), (0, i14)] [] m3 Q := by
          intro nlp33_15
          induction nlp33_15 with
          | zero =>
            intros
            exact absurd (by assumption : _ < 0) (Nat.not_lt_zero _)
          | succ nlp33_15 ihlp33_15 =>
            intro i13 i14 li13 ui13 li14 ui14 hmlp33_15
            refine zw_4 zr_194_33 rfl ?_
            refine zw_4 zr_194_35 rfl ?_
            refine zw_3 zr_194_37 rfl ?_
            refine zw_16h zr_194_38 ?_
            intro x17 hx17a hx17b
            refine zw_41_3 zr_194_39 ?_ ?_
            · intro h18
              refine zw_7 zr_194_74 rfl ?_
              refine zw_4 zr_194_75 rfl ?_
              refine zw_40_1 zr_194_77 ?_ ?_
              · intro h19
                refine zw_4 zr_194_89 rfl ?_
                refine zw_42 zr_194_91 ?_
                refine zw_47 (c := 69) zr_194_98 rfl ⟨rfl, by decide, rfl⟩ ?_
                intro m20 em20
                have hIm20 : zInv m20 := by rw [em20]; exact hIm3.any (by omega) rfl (by decide) (by decide)
                have hFm20 : zFr W_194 m0 m20 := by rw [em20]; exact hFm3.up rfl
                have km20_69_23 : m20 69 23 = f7 := by rw [em20, zUp_ne (by omega)]; exact ef7
                have km20_69_24 : m20 69 24 = i13 := by rw [em20]; exact zUp_eq _ _ _ _
                clear em20
                refine zw_15 (c := 1) (L' := [(2, 69), (0, a0), (0, a1), (0, a2), (0, (i2 + 1)), (0, i13), (0, i14)]) zr_194_101 rfl (by decide) (by omega) rfl ?_
                refine zw_42 zr_194_104 ?_
                exact zw_less (L := [(2, 69), (0, a0), (0, a1), (0, a2), (0, (i2 + 1)), (9, 0), (9, 0)]) ⟨Or.inr rfl, Or.inr rfl, Or.inr rfl, Or.inr rfl, Or.inr rfl, Or.inl rfl, Or.inl rfl, trivial⟩ (ihlp9_4 ((i2 + 1)) m20 hIm20 hFm20   (by omega) (by omega) (by omega))
              · intro h21
                refine zw_4 zr_194_80 rfl ?_
                refine zw_7 zr_194_82 rfl ?_
                obtain ⟨f22, ef22⟩ : ∃ v, m3 69 24 = v := ⟨_, rfl⟩
                have bf22 := hIm3.fi (c := 69) (k := 24) rfl
                rw [ef22] at bf22
                refine zw_46i zr_194_83 ef22 rfl rfl rfl ?_
                refine zw_41_5 zr_194_86 ?_ ?_
                · intro h23
                  refine zw_7 zr_194_94 rfl ?_
                  refine zw_46i zr_194_95 ef22 rfl rfl rfl ?_
                  refine zw_47 (c := 69) zr_194_98 rfl ⟨rfl, by decide, rfl⟩ ?_
                  intro m24 em24
                  have hIm24 : zInv m24 := by rw [em24]; exact hIm3.any (by omega) rfl (by decide) (by decide)
                  have hFm24 : zFr W_194 m0 m24 := by rw [em24]; exact hFm3.up rfl
                  have km24_69_23 : m24 69 23 = f7 := by rw [em24, zUp_ne (by omega)]; exact ef7
                  have km24_69_24 : m24 69 24 = f22 := by rw [em24]; exact zUp_eq _ _ _ _
                  clear em24
                  refine zw_15h (L' := fun r => [(2, 69), (0, a0), (0, a1), (0, a2), (0, r), (0, i13), (0, i14)]) zr_194_101 rfl (fun _ => rfl) ?_
                  intro x25 hx25a hx25b
                  show zW E (d) 194 104 [(2, 69), (0, a0), (0, a1), (0, a2), (0, x25), (0, i13), (0, i14)] [] m24 Q
                  refine zw_42 zr_194_104 ?_
                  exact zw_less (L := [(2, 69), (0, a0), (0, a1), (0, a2), (0, x25), (9, 0), (9, 0)]) ⟨Or.inr rfl, Or.inr rfl, Or.inr rfl, Or.inr rfl, Or.inr rfl, Or.inl rfl, Or.inl rfl, trivial⟩ (ihlp9_4 (x25) m24 hIm24 hFm24   (by omega) (by omega) (by omega))
                · intro h26
                  refine zw_4 zr_194_89 rfl ?_
                  refine zw_42 zr_194_91 ?_
                  refine zw_47 (c := 69) zr_194_98 rfl ⟨rfl, by decide, rfl⟩ ?_
                  intro m27 em27
                  have hIm27 : zInv m27 := by rw [em27]; exact hIm3.any (by omega) rfl (by decide) (by decide)
                  have hFm27 : zFr W_194 m0 m27 := by rw [em27]; exact hFm3.up rfl
                  have km27_69_23 : m27 69 23 = f7 := by rw [em27, zUp_ne (by omega)]; exact ef7
                  have km27_69_24 : m27 69 24 = i13 := by rw [em27]; exact zUp_eq _ _ _ _
                  clear em27
                  refine zw_15h (L' := fun r => [(2, 69), (0, a0), (0, a1), (0, a2), (0, r), (0, i13), (0, i14)]) zr_194_101 rfl (fun _ => rfl) ?_
                  intro x28 hx28a hx28b
                  show zW E (d) 194 104 [(2, 69), (0, a0), (0, a1), (0, a2), (0, x28), (0, i13), (0, i14)] [] m27 Q
                  refine zw_42 zr_194_104 ?_
                  exact zw_less (L := [(2, 69), (0, a0), (0, a1), (0, a2), (0, x28), (9, 0), (9, 0)]) ⟨Or.inr rfl, Or.inr rfl, Or.inr rfl, Or.inr rfl, Or.inr rfl, Or.inl rfl, Or.inl rfl, trivial⟩ (ihlp9_4 (x28) m27 hIm27 hFm27   (by omega) (by omega) (by omega))
            · intro h29
              refine zw_7 zr_194_42 rfl ?_
              refine zw_46r (s := 82) zr_194_43 rfl rfl rfl rfl ?_
              refine zw_4 zr_194_46 rfl ?_
              refine zw_48 (c := 82) (len := 100) zr_194_48 rfl rfl (by omega) (by omega) ?_
              intro x30 ex30
              have bx30 := hIm3.ra (c := 82) (len := 100) (k := (i14).toNat) rfl (by omega)
              rw [← ex30] at bx30
              refine zw_4 zr_194_49 rfl ?_
              refine zw_41_3 zr_194_51 ?_ ?_
              · intro h31
                refine zw_4 zr_194_64 rfl ?_
                refine zw_10 (L' := [(2, 69), (0, a0), (0, a1), (0, a2), (0, i2), (0, i13), (0, i14)]) zr_194_66 (Nat.le_of_ble_eq_true rfl) rfl ?_
                refine zw_15 (c := 1) (L' := [(2, 69), (0, a0), (0, a1), (0, a2), (0, i2), (0, i13), (0, (i14 + 1))]) zr_194_68 rfl (by decide) (by omega) rfl ?_
                refine zw_42 zr_194_71 ?_
                exact zw_less (L := [(2, 69), (0, a0), (0, a1), (0, a2), (0, i2), (0, i13), (0, (i14 + 1))]) ⟨Or.inr rfl, Or.inr rfl, Or.inr rfl, Or.inr rfl, Or.inr rfl, Or.inr rfl, Or.inr rfl, trivial⟩ (ihlp33_15 (i13) ((i14 + 1))  (by omega) (by omega) (by omega) (by omega) (by omega))
              · intro h32
                refine zw_7 zr_194_54 rfl ?_
                refine zw_46r (s := 82) zr_194_55 rfl rfl rfl rfl ?_
                refine zw_4 zr_194_58 rfl ?_
                refine zw_48k (c := 82) (len := 100) zr_194_60 rfl rfl (by omega) (by omega) rfl ex30.symm ?_
                refine zw_42 zr_194_61 ?_
                refine zw_10 (L' := [(2, 69), (0, a0), (0, a1), (0, a2), (0, i2), (0, x30), (0, i14)]) zr_194_66 (Nat.le_of_ble_eq_true rfl) rfl ?_
                refine zw_15 (c := 1) (L' := [(2, 69), (0, a0), (0, a1), (0, a2), (0, i2), (0, x30), (0, (i14 + 1))]) zr_194_68 rfl (by decide) (by omega) rfl ?_
                refine zw_42 zr_194_71 ?_
                exact zw_less (L := [(2, 69), (0, a0), (0, a1), (0, a2), (0, i2), (0, x30), (0, (i14 + 1))]) ⟨Or.inr rfl, Or.inr rfl, Or.inr rfl, Or.inr rfl, Or.inr rfl, Or.inr rfl, Or.inr rfl, trivial⟩ (ihlp33_15 (x30) ((i14 + 1))  (by omega) (by omega) (by omega) (by omega) (by omega))
        exact lp33_15 _ (x12) (i2)  (by omega) (by omega) (by omega) (by omega) (Nat.lt_succ_self _)
  exact lp9_4 _ (0) m1 hIm1 hFm1   (by omega) (by omega) (Nat.lt_succ_self _)
