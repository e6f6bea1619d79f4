set_option maxHeartbeats 8000000 in
theorem th_59 {E : zE} {d : Nat} {m0 : zM} {a0 : Int} {F3 : Nat → Int} (hd : 1 ≤ d) (hI0 : zInv m0) (hG3 : m0 3 = F3) (ha0 : 0 ≤ a0 ∧ a0 ≤ 9) : zC E d 59 [(2, 1), (0, a0)] m0 (fun v m' => ∃ r : Int, v = (0, r) ∧ 0 ≤ r ∧ r ≤ 396 ∧ m0 = m' ∧ (r = F3 (a0 * 4 + 0).toNat + F3 (a0 * 4 + (0 + 1)).toNat + F3 (a0 * 4 + ((0 + 1) + 1)).toNat + F3 (a0 * 4 + (((0 + 1) + 1) + 1)).toNat)) := by
  generalize hQ : (fun (v : zV) (m' : zM) => ∃ r : Int, v = (0, r) ∧ 0 ≤ r ∧ r ≤ 396 ∧ m0 = m' ∧ (r = F3 (a0 * 4 + 0).toNat + F3 (a0 * 4 + (0 + 1)).toNat + F3 (a0 * 4 + ((0 + 1) + 1)).toNat + F3 (a0 * 4 + (((0 + 1) + 1) + 1)).toNat)) = Q
  show zW E d 59 0 [(2, 1), (0, a0), (9, 0), (9, 0)] [] m0 Q
  refine zw_push zr_59_0 ?_
  refine zw_9 (L' := [(2, 1), (0, a0), (0, 0), (9, 0)]) zr_59_1 (Nat.le_of_ble_eq_true rfl) rfl ?_
  refine zw_push zr_59_2 ?_
  refine zw_9 (L' := [(2, 1), (0, a0), (0, 0), (0, 0)]) zr_59_3 (Nat.le_of_ble_eq_true rfl) rfl ?_
  refine zw_3 zr_59_4 rfl ?_
  refine zw_push zr_59_5 ?_
  refine zw_41_3 zr_59_6 ?_ ?_
  · intro h1; omega
  · intro h2
    refine zw_3 zr_59_9 rfl ?_
    refine zw_7 zr_59_10 rfl ?_
    refine zw_46r (s := 3) zr_59_11 rfl rfl rfl rfl ?_
    refine zw_3 zr_59_14 rfl ?_
    refine zw_push zr_59_15 ?_
    refine zw_18 zr_59_16 (by omega) ?_
    refine zw_3 zr_59_17 rfl ?_
    refine zw_16 zr_59_18 (by omega) ?_
    refine zw_48 (c := 3) (len := 40) zr_59_19 rfl rfl (by omega) (by omega) ?_
    intro x3 ex3
    have bx3 := ib_3 hI0 (k := (((a0 * 4) + 0)).toNat) (by omega)
    rw [← ex3] at bx3
    have qx3 : x3 = F3 (((a0 * 4) + 0)).toNat := by rw [← hG3]; exact ex3
    clear ex3
    refine zw_16 zr_59_20 (by omega) ?_
    refine zw_9 (L' := [(2, 1), (0, a0), (0, (0 + x3)), (0, 0)]) zr_59_21 (Nat.le_of_ble_eq_true rfl) rfl ?_
    refine zw_15 (c := 1) (L' := [(2, 1), (0, a0), (0, (0 + x3)), (0, (0 + 1))]) zr_59_22 rfl (by decide) (by omega) rfl ?_
    refine zw_42 zr_59_25 ?_
    refine zw_3 zr_59_4 rfl ?_
    refine zw_push zr_59_5 ?_
    refine zw_41_3 zr_59_6 ?_ ?_
    · intro h4; omega
    · intro h5
      refine zw_3 zr_59_9 rfl ?_
      refine zw_7 zr_59_10 rfl ?_
      refine zw_46r (s := 3) zr_59_11 rfl rfl rfl rfl ?_
      refine zw_3 zr_59_14 rfl ?_
      refine zw_push zr_59_15 ?_
      refine zw_18 zr_59_16 (by omega) ?_
      refine zw_3 zr_59_17 rfl ?_
      refine zw_16 zr_59_18 (by omega) ?_
      refine zw_48 (c := 3) (len := 40) zr_59_19 rfl rfl (by omega) (by omega) ?_
      intro x6 ex6
      have bx6 := ib_3 hI0 (k := (((a0 * 4) + (0 + 1))).toNat) (by omega)
      rw [← ex6] at bx6
      have qx6 : x6 = F3 (((a0 * 4) + (0 + 1))).toNat := by rw [← hG3]; exact ex6
      clear ex6
      refine zw_16 zr_59_20 (by omega) ?_
      refine zw_9 (L' := [(2, 1), (0, a0), (0, ((0 + x3) + x6)), (0, (0 + 1))]) zr_59_21 (Nat.le_of_ble_eq_true rfl) rfl ?_
      refine zw_15 (c := 1) (L' := [(2, 1), (0, a0), (0, ((0 + x3) + x6)), (0, ((0 + 1) + 1))]) zr_59_22 rfl (by decide) (by omega) rfl ?_
      refine zw_42 zr_59_25 ?_
      refine zw_3 zr_59_4 rfl ?_
      refine zw_push zr_59_5 ?_
      refine zw_41_3 zr_59_6 ?_ ?_
      · intro h7; omega
      · intro h8
        refine zw_3 zr_59_9 rfl ?_
        refine zw_7 zr_59_10 rfl ?_
        refine zw_46r (s := 3) zr_59_11 rfl rfl rfl rfl ?_
        refine zw_3 zr_59_14 rfl ?_
        refine zw_push zr_59_15 ?_
        refine zw_18 zr_59_16 (by omega) ?_
        refine zw_3 zr_59_17 rfl ?_
        refine zw_16 zr_59_18 (by omega) ?_
        refine zw_48 (c := 3) (len := 40) zr_59_19 rfl rfl (by omega) (by omega) ?_
        intro x9 ex9
        have bx9 := ib_3 hI0 (k := (((a0 * 4) + ((0 + 1) + 1))).toNat) (by omega)
        rw [← ex9] at bx9
        have qx9 : x9 = F3 (((a0 * 4) + ((0 + 1) + 1))).toNat := by rw [← hG3]; exact ex9
        clear ex9
        refine zw_16 zr_59_20 (by omega) ?_
        refine zw_9 (L' := [(2, 1), (0, a0), (0, (((0 + x3) + x6) + x9)), (0, ((0 + 1) + 1))]) zr_59_21 (Nat.le_of_ble_eq_true rfl) rfl ?_
        refine zw_15 (c := 1) (L' := [(2, 1), (0, a0), (0, (((0 + x3) + x6) + x9)), (0, (((0 + 1) + 1) + 1))]) zr_59_22 rfl (by decide) (by omega) rfl ?_
        refine zw_42 zr_59_25 ?_
        refine zw_3 zr_59_4 rfl ?_
        refine zw_push zr_59_5 ?_
        refine zw_41_3 zr_59_6 ?_ ?_
        · intro h10; omega
        · intro h11
          refine zw_3 zr_59_9 rfl ?_
          refine zw_7 zr_59_10 rfl ?_
          refine zw_46r (s := 3) zr_59_11 rfl rfl rfl rfl ?_
          refine zw_3 zr_59_14 rfl ?_
          refine zw_push zr_59_15 ?_
          refine zw_18 zr_59_16 (by omega) ?_
          refine zw_3 zr_59_17 rfl ?_
          refine zw_16 zr_59_18 (by omega) ?_
          refine zw_48 (c := 3) (len := 40) zr_59_19 rfl rfl (by omega) (by omega) ?_
          intro x12 ex12
          have bx12 := ib_3 hI0 (k := (((a0 * 4) + (((0 + 1) + 1) + 1))).toNat) (by omega)
          rw [← ex12] at bx12
          have qx12 : x12 = F3 (((a0 * 4) + (((0 + 1) + 1) + 1))).toNat := by rw [← hG3]; exact ex12
          clear ex12
          refine zw_16 zr_59_20 (by omega) ?_
          refine zw_9 (L' := [(2, 1), (0, a0), (0, ((((0 + x3) + x6) + x9) + x12)), (0, (((0 + 1) + 1) + 1))]) zr_59_21 (Nat.le_of_ble_eq_true rfl) rfl ?_
          refine zw_15 (c := 1) (L' := [(2, 1), (0, a0), (0, ((((0 + x3) + x6) + x9) + x12)), (0, ((((0 + 1) + 1) + 1) + 1))]) zr_59_22 rfl (by decide) (by omega) rfl ?_
          refine zw_42 zr_59_25 ?_
          refine zw_3 zr_59_4 rfl ?_
          refine zw_push zr_59_5 ?_
          refine zw_41_3 zr_59_6 ?_ ?_
          · intro h13
            refine zw_3 zr_59_28 rfl ?_
            refine zw_R zr_59_29 (by decide) zm_59 (v := (0, ((((0 + x3) + x6) + x9) + x12))) rfl ?_
            rw [← hQ]; exact ⟨_, rfl, by omega, by omega, rfl, by omega⟩
          · intro h15; omega

abbrev W_132 : List (Nat × Nat) := [(42, 0), (42, 1)]
set_option maxHeartbeats 8000000 in
theorem th_132 {E : zE} {d : Nat} {m0 : zM} {a0 : Int} {a1 : Int} {g0 : Int} {g1 : Int} {g2 : Int} {F3 : Nat → Int} {F4 : Nat → Int} {F13 : Nat → Int} (hd : 4 ≤ d) (hI0 : zInv m0) (hg0 : m0 1 0 = g0) (hg1 : m0 42 0 = g1) (hg2 : m0 42 1 = g2) (hG3 : m0 3 = F3) (hG4 : m0 4 = F4) (hG13 : m0 13 = F13) (ha0 : (-2147483648) ≤ a0 ∧ a0 ≤ 2147483647) (ha1 : (-2147483648) ≤ a1 ∧ a1 ≤ 2147483647) : zC E d 132 [(2, 0), (0, a0), (0, a1)] m0 (fun v m' => ∃ r : Int, v = (0, r) ∧ (-3) ≤ r ∧ r ≤ 1 ∧ zInv m' ∧ zFr W_132 m0 m' ∧ ((r = -2 ∧ (a0 < 0 ∨ g0 ≤ a0 ∨ a1 < 0 ∨ 1 < a1)) ∨ (0 ≤ a0 ∧ a0 < g0 ∧ 0 ≤ a1 ∧ a1 ≤ 1 ∧ ((r = -3 ∧ F4 (a0 * 4 + 0).toNat + F4 (a0 * 4 + (0 + 1)).toNat + F4 (a0 * 4 + ((0 + 1) + 1)).toNat + F4 (a0 * 4 + (((0 + 1) + 1) + 1)).toNat = 0) ∨ (r = 1 ∧ F4 (a0 * 4 + 0).toNat + F4 (a0 * 4 + (0 + 1)).toNat + F4 (a0 * 4 + ((0 + 1) + 1)).toNat + F4 (a0 * 4 + (((0 + 1) + 1) + 1)).toNat ≠ 0)))) ∧ ((r = 1 ∧ a1 = 0 ∧ zTl (F3 (a0 * 4 + 0).toNat + F3 (a0 * 4 + (0 + 1)).toNat + F3 (a0 * 4 + ((0 + 1) + 1)).toNat + F3 (a0 * 4 + (((0 + 1) + 1) + 1)).toNat) (F4 (a0 * 4 + 0).toNat + F4 (a0 * 4 + (0 + 1)).toNat + F4 (a0 * 4 + ((0 + 1) + 1)).toNat + F4 (a0 * 4 + (((0 + 1) + 1) + 1)).toNat) (m' 42 0) (m' 42 1)) ∨ (r = 1 ∧ a1 ≠ 0 ∧ zTl (prs (fun c => F3 (a0.toNat * 4 + c)) (fun c => F4 (a0.toNat * 4 + c)) F13 4).1 ((prs (fun c => F3 (a0.toNat * 4 + c)) (fun c => F4 (a0.toNat * 4 + c)) F13 4).2.1 * (prs (fun c => F3 (a0.toNat * 4 + c)) (fun c => F4 (a0.toNat * 4 + c)) F13 4).2.2) (m' 42 0) (m' 42 1)) ∨ (r ≠ 1 ∧ (m' 42 0) = g1 ∧ (m' 42 1) = g2))) := by
  have hF0 : zFr W_132 m0 m0 := zFr.rfl
  have bg0 := ib_1_0 hI0
  rw [hg0] at bg0
  have bg1 := hI0.fl (c := 42) (k := 0) rfl
  rw [hg1] at bg1
  have bg2 := hI0.fl (c := 42) (k := 1) rfl
  rw [hg2] at bg2
  generalize hQ : (fun (v : zV) (m' : zM) => ∃ r : Int, v = (0, r) ∧ (-3) ≤ r ∧ r ≤ 1 ∧ zInv m' ∧ zFr W_132 m0 m' ∧ ((r = -2 ∧ (a0 < 0 ∨ g0 ≤ a0 ∨ a1 < 0 ∨ 1 < a1)) ∨ (0 ≤ a0 ∧ a0 < g0 ∧ 0 ≤ a1 ∧ a1 ≤ 1 ∧ ((r = -3 ∧ F4 (a0 * 4 + 0).toNat + F4 (a0 * 4 + (0 + 1)).toNat + F4 (a0 * 4 + ((0 + 1) + 1)).toNat + F4 (a0 * 4 + (((0 + 1) + 1) + 1)).toNat = 0) ∨ (r = 1 ∧ F4 (a0 * 4 + 0).toNat + F4 (a0 * 4 + (0 + 1)).toNat + F4 (a0 * 4 + ((0 + 1) + 1)).toNat + F4 (a0 * 4 + (((0 + 1) + 1) + 1)).toNat ≠ 0)))) ∧ ((r = 1 ∧ a1 = 0 ∧ zTl (F3 (a0 * 4 + 0).toNat + F3 (a0 * 4 + (0 + 1)).toNat + F3 (a0 * 4 + ((0 + 1) + 1)).toNat + F3 (a0 * 4 + (((0 + 1) + 1) + 1)).toNat) (F4 (a0 * 4 + 0).toNat + F4 (a0 * 4 + (0 + 1)).toNat + F4 (a0 * 4 + ((0 + 1) + 1)).toNat + F4 (a0 * 4 + (((0 + 1) + 1) + 1)).toNat) (m' 42 0) (m' 42 1)) ∨ (r = 1 ∧ a1 ≠ 0 ∧ zTl (prs (fun c => F3 (a0.toNat * 4 + c)) (fun c => F4 (a0.toNat * 4 + c)) F13 4).1 ((prs (fun c => F3 (a0.toNat * 4 + c)) (fun c => F4 (a0.toNat * 4 + c)) F13 4).2.1 * (prs (fun c => F3 (a0.toNat * 4 + c)) (fun c => F4 (a0.toNat * 4 + c)) F13 4).2.2) (m' 42 0) (m' 42 1)) ∨ (r ≠ 1 ∧ (m' 42 0) = g1 ∧ (m' 42 1) = g2))) = Q
  show zW E d 132 0 [(2, 0), (0, a0), (0, a1)] [] m0 Q
  refine zw_7 zr_132_0 rfl ?_
  refine zw_46r (s := 1) zr_132_1 rfl rfl rfl rfl ?_
  refine zw_3 zr_132_4 rfl ?_
  refine zw_C zr_132_5 (Or.inl rfl) zm_49 rfl rfl ⟨Nat.le_of_ble_eq_true rfl, Nat.le_of_ble_eq_true rfl, Nat.le_of_ble_eq_true rfl, rfl, by decide⟩ (by omega) (P := (fun v m' => zW E (d) 132 8 [(2, 0), (0, a0), (0, a1)] (if v.1 = 9 then [] else v :: []) m' Q)) ?_ (fun _ _ h => h)
  generalize hQ1 : (fun v m' => zW E (d) 132 8 [(2, 0), (0, a0), (0, a1)] (if v.1 = 9 then [] else v :: []) m' Q) = Q1
  show zW E (d - 1) 49 0 [(2, 1), (0, a0)] [] m0 Q1
  refine zw_3 zr_49_0 rfl ?_
  refine zw_40_0 zr_49_1 ?_ ?_
  · intro h1
    refine zw_push zr_49_16 ?_
    refine zw_R zr_49_17 (by decide) zm_49 (v := (0, 0)) (zRetB (by omega)) ?_
    rw [← hQ1]
    show zW E (d) 132 8 [(2, 0), (0, a0), (0, a1)] [(0, 0)] m0 Q
    refine zw_40_1 zr_132_8 ?_ ?_
    · intro h2
      refine zw_push zr_132_20 ?_
      refine zw_R zr_132_22 (by decide) zm_132 (v := (0, (-2))) rfl ?_
      rw [← hQ]; exact ⟨_, rfl, by omega, by omega, hI0, hF0, by omega, by first | exact Or.inr (Or.inr ⟨by decide, hg1, hg2⟩) | exact Or.inl ⟨rfl, by omega, by rw [hg1, hg2, ← zz, ← zz]; exact zz⟩ | exact Or.inr (Or.inl ⟨rfl, by omega, by rw [hg1, hg2]; exact zz⟩)⟩
    · intro h5; omega
  · intro h6
    refine zw_3 zr_49_4 rfl ?_
    refine zw_7 zr_49_5 rfl ?_
    refine zw_46i zr_49_6 hg0 rfl rfl rfl ?_
    refine zw_41_3 zr_49_9 ?_ ?_
    · intro h7
      refine zw_push zr_49_16 ?_
      refine zw_R zr_49_17 (by decide) zm_49 (v := (0, 0)) (zRetB (by omega)) ?_
      rw [← hQ1]
      show zW E (d) 132 8 [(2, 0), (0, a0), (0, a1)] [(0, 0)] m0 Q
      refine zw_40_1 zr_132_8 ?_ ?_
      · intro h8
        refine zw_push zr_132_20 ?_
        refine zw_R zr_132_22 (by decide) zm_132 (v := (0, (-2))) rfl ?_
        rw [← hQ]; exact ⟨_, rfl, by omega, by omega, hI0, hF0, by omega, by first | exact Or.inr (Or.inr ⟨by decide, hg1, hg2⟩) | exact Or.inl ⟨rfl, by omega, by rw [hg1, hg2, ← zz, ← zz]; exact zz⟩ | exact Or.inr (Or.inl ⟨rfl, by omega, by rw [hg1, hg2]; exact zz⟩)⟩
      · intro h11; omega
    · intro h12
      refine zw_push zr_49_12 ?_
      refine zw_42 zr_49_13 ?_
      refine zw_R zr_49_17 (by decide) zm_49 (v := (0, 1)) (zRetB (by omega)) ?_
      rw [← hQ1]
      show zW E (d) 132 8 [(2, 0), (0, a0), (0, a1)] [(0, 1)] m0 Q
      refine zw_40_1 zr_132_8 ?_ ?_
      · intro h13; omega
      · intro h14
        refine zw_3 zr_132_11 rfl ?_
        refine zw_push zr_132_12 ?_
        refine zw_push zr_132_13 ?_
        refine zw_C zr_132_14 (Or.inr rfl) zm_100 rfl rfl ⟨Nat.le_of_ble_eq_true rfl, Nat.le_of_ble_eq_true rfl, Nat.le_of_ble_eq_true rfl, rfl, by decide⟩ (by omega) (P := (fun v m' => zW E (d) 132 17 [(2, 0), (0, a0), (0, a1)] (if v.1 = 9 then [] else v :: []) m' Q)) ?_ (fun _ _ h => h)
        generalize hQ1 : (fun v m' => zW E (d) 132 17 [(2, 0), (0, a0), (0, a1)] (if v.1 = 9 then [] else v :: []) m' Q) = Q1
        show zW E (d - 1) 100 0 [(0, a1), (0, 0), (0, 1)] [] m0 Q1
        refine zw_3 zr_100_0 rfl ?_
        refine zw_3 zr_100_1 rfl ?_
        refine zw_41_0 zr_100_2 ?_ ?_
        · intro h15
          refine zw_push zr_100_14 ?_
          refine zw_R zr_100_15 (by decide) zm_100 (v := (0, 0)) (zRetB (by omega)) ?_
          rw [← hQ1]
          show zW E (d) 132 17 [(2, 0), (0, a0), (0, a1)] [(0, 0)] m0 Q
          refine zw_40_4 zr_132_17 ?_ ?_
          · intro h16; omega
          · intro h17
            refine zw_push zr_132_20 ?_
            refine zw_R zr_132_22 (by decide) zm_132 (v := (0, (-2))) rfl ?_
            rw [← hQ]; exact ⟨_, rfl, by omega, by omega, hI0, hF0, by omega, by first | exact Or.inr (Or.inr ⟨by decide, hg1, hg2⟩) | exact Or.inl ⟨rfl, by omega, by rw [hg1, hg2, ← zz, ← zz]; exact zz⟩ | exact Or.inr (Or.inl ⟨rfl, by omega, by rw [hg1, hg2]; exact zz⟩)⟩
        · intro h20
          refine zw_3 zr_100_5 rfl ?_
          refine zw_3 zr_100_6 rfl ?_
          refine zw_41_2 zr_100_7 ?_ ?_
          · intro h21
            refine zw_push zr_100_14 ?_
            refine zw_R zr_100_15 (by decide) zm_100 (v := (0, 0)) (zRetB (by omega)) ?_
            rw [← hQ1]
            show zW E (d) 132 17 [(2, 0), (0, a0), (0, a1)] [(0, 0)] m0 Q
            refine zw_40_4 zr_132_17 ?_ ?_
            · intro h22; omega
            · intro h23
              refine zw_push zr_132_20 ?_
              refine zw_R zr_132_22 (by decide) zm_132 (v := (0, (-2))) rfl ?_
              rw [← hQ]; exact ⟨_, rfl, by omega, by omega, hI0, hF0, by omega, by first | exact Or.inr (Or.inr ⟨by decide, hg1, hg2⟩) | exact Or.inl ⟨rfl, by omega, by rw [hg1, hg2, ← zz, ← zz]; exact zz⟩ | exact Or.inr (Or.inl ⟨rfl, by omega, by rw [hg1, hg2]; exact zz⟩)⟩
          · intro h26
            refine zw_push zr_100_10 ?_
            refine zw_42 zr_100_11 ?_
            refine zw_R zr_100_15 (by decide) zm_100 (v := (0, 1)) (zRetB (by omega)) ?_
            rw [← hQ1]
            show zW E (d) 132 17 [(2, 0), (0, a0), (0, a1)] [(0, 1)] m0 Q
            refine zw_40_4 zr_132_17 ?_ ?_
            · intro h27
              refine zw_7 zr_132_23 rfl ?_
              refine zw_46r (s := 1) zr_132_24 rfl rfl rfl rfl ?_
              refine zw_3 zr_132_27 rfl ?_
              refine zw_C zr_132_28 (Or.inl rfl) zm_60 rfl rfl ⟨Nat.le_of_ble_eq_true rfl, Nat.le_of_ble_eq_true rfl, Nat.le_of_ble_eq_true rfl, rfl, by decide⟩ (by omega) (th_60 (d := d - 1) (by omega) hI0 (a0 := a0)   (F4 := F4)  hG4 (by omega) ) ?_
              rintro _ _ ⟨r28, rfl, hr28a, hr28b, rfl, po0_r28⟩
              show zW E (d) 132 31 [(2, 0), (0, a0), (0, a1)] [(0, r28)] m0 Q
              refine zw_40_4 zr_132_31 ?_ ?_
              · intro h29
                refine zw_3 zr_132_37 rfl ?_
                refine zw_40_4 zr_132_38 ?_ ?_
                · intro h30
                  refine zw_7 zr_132_69 rfl ?_
                  refine zw_3 zr_132_70 rfl ?_
                  refine zw_C zr_132_71 (Or.inl rfl) zm_131 rfl rfl ⟨Nat.le_of_ble_eq_true rfl, Nat.le_of_ble_eq_true rfl, Nat.le_of_ble_eq_true rfl, rfl, by decide⟩ (by omega) (th_131 (d := d - 1) (by omega) hI0 (a0 := a0)   (F3 := F3) (F4 := F4) (F13 := F13)  hG3 hG4 hG13 (by omega) (by omega)) ?_
                  rintro _ m31 ⟨rfl, hIm31, gm31, po0_m31⟩
                  have hFm31 : zFr W_132 m0 m31 := hF0.trans gm31 rfl
                  have km31_1_0 : m31 1 0 = g0 := (gm31 1 0 rfl).trans hg0
                  have fm31_3 : m31 3 = F3 := (funext fun k => gm31 3 k rfl).trans hG3
                  have fm31_4 : m31 4 = F4 := (funext fun k => gm31 4 k rfl).trans hG4
                  have fm31_13 : m31 13 = F13 := (funext fun k => gm31 13 k rfl).trans hG13
                  obtain ⟨f32, ef32⟩ : ∃ v, m31 42 0 = v := ⟨_, rfl⟩
                  have bf32 := hIm31.fl (c := 42) (k := 0) rfl
                  rw [ef32] at bf32
                  rw [ef32] at po0_m31
                  obtain ⟨f33, ef33⟩ : ∃ v, m31 42 1 = v := ⟨_, rfl⟩
                  have bf33 := hIm31.fl (c := 42) (k := 1) rfl
                  rw [ef33] at bf33
                  rw [ef33] at po0_m31
                  show zW E (d) 132 74 [(2, 0), (0, a0), (0, a1)] [] m31 Q
                  refine zw_push zr_132_74 ?_
                  refine zw_R zr_132_75 (by decide) zm_132 (v := (0, 1)) rfl ?_
                  rw [← hQ]; exact ⟨_, rfl, by omega, by omega, hIm31, hFm31, by omega, by first | exact Or.inr (Or.inr ⟨by decide, ef32, ef33⟩) | exact Or.inl ⟨rfl, by omega, by rw [ef32, ef33, ← po0_m31, ← zz]; exact zz⟩ | exact Or.inr (Or.inl ⟨rfl, by omega, by rw [ef32, ef33]; exact po0_m31⟩)⟩
                · intro h36
                  refine zw_7 zr_132_41 rfl ?_
                  refine zw_46r (s := 42) zr_132_42 rfl rfl rfl rfl ?_
                  refine zw_7 zr_132_45 rfl ?_
                  refine zw_46r (s := 1) zr_132_46 rfl rfl rfl rfl ?_
                  refine zw_3 zr_132_49 rfl ?_
                  refine zw_C zr_132_50 (Or.inl rfl) zm_59 rfl rfl ⟨Nat.le_of_ble_eq_true rfl, Nat.le_of_ble_eq_true rfl, Nat.le_of_ble_eq_true rfl, rfl, by decide⟩ (by omega) (th_59 (d := d - 1) (by omega) hI0 (a0 := a0)   (F3 := F3)  hG3 (by omega) ) ?_
                  rintro _ _ ⟨r37, rfl, hr37a, hr37b, rfl, po0_r37⟩
                  show zW E (d) 132 53 [(2, 0), (0, a0), (0, a1)] [(0, r37), (2, 42)] m0 Q
                  refine zw_36 zr_132_53 ?_
                  refine zw_7 zr_132_54 rfl ?_
                  refine zw_46r (s := 1) zr_132_55 rfl rfl rfl rfl ?_
                  refine zw_3 zr_132_58 rfl ?_
                  refine zw_C zr_132_59 (Or.inl rfl) zm_60 rfl rfl ⟨Nat.le_of_ble_eq_true rfl, Nat.le_of_ble_eq_true rfl, Nat.le_of_ble_eq_true rfl, rfl, by decide⟩ (by omega) (th_60 (d := d - 1) (by omega) hI0 (a0 := a0)   (F4 := F4)  hG4 (by omega) ) ?_
                  rintro _ _ ⟨r38, rfl, hr38a, hr38b, rfl, po0_r38⟩
                  show zW E (d) 132 62 [(2, 0), (0, a0), (0, a1)] [(0, r38), (1, r37), (2, 42)] m0 Q
                  refine zw_36 zr_132_62 ?_
                  refine zw_C zr_132_63 (Or.inl rfl) zm_38 rfl rfl ⟨Nat.le_of_ble_eq_true rfl, Nat.le_of_ble_eq_true rfl, Nat.le_of_ble_eq_true rfl, rfl, by decide⟩ (by omega) (th_38 (d := d - 1) (by omega) hI0 (a0 := r37) (a1 := r38)      (by omega) (by omega) ) ?_
                  rintro _ m39 ⟨rfl, hIm39, gm39, po0_m39⟩
                  have hFm39 : zFr W_132 m0 m39 := hF0.trans gm39 rfl
                  have km39_1_0 : m39 1 0 = g0 := (gm39 1 0 rfl).trans hg0
                  have fm39_3 : m39 3 = F3 := (funext fun k => gm39 3 k rfl).trans hG3
                  have fm39_4 : m39 4 = F4 := (funext fun k => gm39 4 k rfl).trans hG4
                  have fm39_13 : m39 13 = F13 := (funext fun k => gm39 13 k rfl).trans hG13
                  obtain ⟨f40, ef40⟩ : ∃ v, m39 42 0 = v := ⟨_, rfl⟩
                  have bf40 := hIm39.fl (c := 42) (k := 0) rfl
                  rw [ef40] at bf40
                  rw [ef40] at po0_m39
                  obtain ⟨f41, ef41⟩ : ∃ v, m39 42 1 = v := ⟨_, rfl⟩
                  have bf41 := hIm39.fl (c := 42) (k := 1) rfl
                  rw [ef41] at bf41
                  rw [ef41] at po0_m39
                  show zW E (d) 132 66 [(2, 0), (0, a0), (0, a1)] [] m39 Q
                  refine zw_42 zr_132_66 ?_
                  refine zw_push zr_132_74 ?_
                  refine zw_R zr_132_75 (by decide) zm_132 (v := (0, 1)) rfl ?_
                  rw [← hQ]; exact ⟨_, rfl, by omega, by omega, hIm39, hFm39, by omega, by first | exact Or.inr (Or.inr ⟨by decide, ef40, ef41⟩) | exact Or.inl ⟨rfl, by omega, by rw [ef40, ef41, ← po0_r37, ← po0_r38]; exact po0_m39⟩ | exact Or.inr (Or.inl ⟨rfl, by omega, by rw [ef40, ef41]; exact po0_r37⟩)⟩
              · intro h44
                refine zw_push zr_132_34 ?_
                refine zw_R zr_132_36 (by decide) zm_132 (v := (0, (-3))) rfl ?_
                rw [← hQ]; exact ⟨_, rfl, by omega, by omega, hI0, hF0, by omega, by first | exact Or.inr (Or.inr ⟨by decide, hg1, hg2⟩) | exact Or.inl ⟨rfl, by omega, by rw [hg1, hg2, ← zz, ← zz]; exact zz⟩ | exact Or.inr (Or.inl ⟨rfl, by omega, by rw [hg1, hg2]; exact zz⟩)⟩
            · intro h47; omega
