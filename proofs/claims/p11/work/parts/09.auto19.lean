abbrev W_206 : List (Nat × Nat) := [(69, 3), (69, 4)]
set_option maxHeartbeats 8000000 in
theorem th_206 {E : zE} {d : Nat} {m0 : zM} {a0 : Int} {a1 : Int} {g0 : Int} {g1 : Int} {g2 : Int} {F70 : Nat → Int} (hd : 3 ≤ d) (hI0 : zInv m0) (hg0 : m0 70 822 = g0) (hg1 : m0 69 3 = g1) (hg2 : m0 69 4 = g2) (hG70 : m0 70 = F70) (ha0 : (-2147483648) ≤ a0 ∧ a0 ≤ 2147483647) (ha1 : (-2147483648) ≤ a1 ∧ a1 ≤ 2147483647) (hp0 : zMv F70) : zC E d 206 [(2, 69), (0, a0), (0, a1)] m0 (fun v m' => ∃ r : Int, v = (0, r) ∧ (-3) ≤ r ∧ r ≤ 1 ∧ zInv m' ∧ zFr W_206 m0 m' ∧ ((r = -2 ∧ (a0 < 0 ∨ g0 ≤ a0 ∨ a1 < 0 ∨ 1 < a1)) ∨ (0 ≤ a0 ∧ a0 < g0 ∧ 0 ≤ a1 ∧ a1 ≤ 1 ∧ ((r = -3 ∧ F70 (10 + 8 * a0 + 2 * 0 + 1).toNat + F70 (10 + 8 * a0 + 2 * (0 + 1) + 1).toNat + F70 (10 + 8 * a0 + 2 * ((0 + 1) + 1) + 1).toNat + F70 (10 + 8 * a0 + 2 * (((0 + 1) + 1) + 1) + 1).toNat = 0) ∨ (r = 1 ∧ F70 (10 + 8 * a0 + 2 * 0 + 1).toNat + F70 (10 + 8 * a0 + 2 * (0 + 1) + 1).toNat + F70 (10 + 8 * a0 + 2 * ((0 + 1) + 1) + 1).toNat + F70 (10 + 8 * a0 + 2 * (((0 + 1) + 1) + 1) + 1).toNat ≠ 0)))) ∧ ((r = 1 ∧ a1 = 0 ∧ zTl (F70 (10 + 8 * a0 + 2 * 0).toNat + F70 (10 + 8 * a0 + 2 * (0 + 1)).toNat + F70 (10 + 8 * a0 + 2 * ((0 + 1) + 1)).toNat + F70 (10 + 8 * a0 + 2 * (((0 + 1) + 1) + 1)).toNat) (F70 (10 + 8 * a0 + 2 * 0 + 1).toNat + F70 (10 + 8 * a0 + 2 * (0 + 1) + 1).toNat + F70 (10 + 8 * a0 + 2 * ((0 + 1) + 1) + 1).toNat + F70 (10 + 8 * a0 + 2 * (((0 + 1) + 1) + 1) + 1).toNat) (m' 69 3) (m' 69 4)) ∨ (r = 1 ∧ a1 ≠ 0 ∧ zTl (prs (fun c => F70 (10 + 8 * a0.toNat + 2 * c)) (fun c => F70 (11 + 8 * a0.toNat + 2 * c)) (fun c => F70 (818 + c)) 4).1 ((prs (fun c => F70 (10 + 8 * a0.toNat + 2 * c)) (fun c => F70 (11 + 8 * a0.toNat + 2 * c)) (fun c => F70 (818 + c)) 4).2.1 * (prs (fun c => F70 (10 + 8 * a0.toNat + 2 * c)) (fun c => F70 (11 + 8 * a0.toNat + 2 * c)) (fun c => F70 (818 + c)) 4).2.2) (m' 69 3) (m' 69 4)) ∨ (r ≠ 1 ∧ (m' 69 3) = g1 ∧ (m' 69 4) = g2))) := by
  have hF0 : zFr W_206 m0 m0 := zFr.rfl
  have bg0 : 0 ≤ m0 70 822 ∧ m0 70 822 ≤ 10 := ib_70_players hI0 (by omega)
  rw [hg0] at bg0
  have bg1 := hI0.fl (c := 69) (k := 3) rfl
  rw [hg1] at bg1
  have bg2 := hI0.fl (c := 69) (k := 4) rfl
  rw [hg2] at bg2
  generalize hQ : (fun (v : zV) (m' : zM) => ∃ r : Int, v = (0, r) ∧ (-3) ≤ r ∧ r ≤ 1 ∧ zInv m' ∧ zFr W_206 m0 m' ∧ ((r = -2 ∧ (a0 < 0 ∨ g0 ≤ a0 ∨ a1 < 0 ∨ 1 < a1)) ∨ (0 ≤ a0 ∧ a0 < g0 ∧ 0 ≤ a1 ∧ a1 ≤ 1 ∧ ((r = -3 ∧ F70 (10 + 8 * a0 + 2 * 0 + 1).toNat + F70 (10 + 8 * a0 + 2 * (0 + 1) + 1).toNat + F70 (10 + 8 * a0 + 2 * ((0 + 1) + 1) + 1).toNat + F70 (10 + 8 * a0 + 2 * (((0 + 1) + 1) + 1) + 1).toNat = 0) ∨ (r = 1 ∧ F70 (10 + 8 * a0 + 2 * 0 + 1).toNat + F70 (10 + 8 * a0 + 2 * (0 + 1) + 1).toNat + F70 (10 + 8 * a0 + 2 * ((0 + 1) + 1) + 1).toNat + F70 (10 + 8 * a0 + 2 * (((0 + 1) + 1) + 1) + 1).toNat ≠ 0)))) ∧ ((r = 1 ∧ a1 = 0 ∧ zTl (F70 (10 + 8 * a0 + 2 * 0).toNat + F70 (10 + 8 * a0 + 2 * (0 + 1)).toNat + F70 (10 + 8 * a0 + 2 * ((0 + 1) + 1)).toNat + F70 (10 + 8 * a0 + 2 * (((0 + 1) + 1) + 1)).toNat) (F70 (10 + 8 * a0 + 2 * 0 + 1).toNat + F70 (10 + 8 * a0 + 2 * (0 + 1) + 1).toNat + F70 (10 + 8 * a0 + 2 * ((0 + 1) + 1) + 1).toNat + F70 (10 + 8 * a0 + 2 * (((0 + 1) + 1) + 1) + 1).toNat) (m' 69 3) (m' 69 4)) ∨ (r = 1 ∧ a1 ≠ 0 ∧ zTl (prs (fun c => F70 (10 + 8 * a0.toNat + 2 * c)) (fun c => F70 (11 + 8 * a0.toNat + 2 * c)) (fun c => F70 (818 + c)) 4).1 ((prs (fun c => F70 (10 + 8 * a0.toNat + 2 * c)) (fun c => F70 (11 + 8 * a0.toNat + 2 * c)) (fun c => F70 (818 + c)) 4).2.1 * (prs (fun c => F70 (10 + 8 * a0.toNat + 2 * c)) (fun c => F70 (11 + 8 * a0.toNat + 2 * c)) (fun c => F70 (818 + c)) 4).2.2) (m' 69 3) (m' 69 4)) ∨ (r ≠ 1 ∧ (m' 69 3) = g1 ∧ (m' 69 4) = g2))) = Q
  show zW E d 206 0 [(2, 69), (0, a0), (0, a1), (9, 0), (9, 0), (9, 0), (9, 0), (9, 0), (9, 0), (9, 0), (9, 0), (9, 0), (9, 0), (9, 0), (9, 0), (9, 0), (9, 0), (9, 0)] [] m0 Q
  refine zw_7 zr_206_0 rfl ?_
  refine zw_3 zr_206_1 rfl ?_
  refine zw_C zr_206_2 (Or.inl rfl) zm_143 rfl rfl ⟨Nat.le_of_ble_eq_true rfl, Nat.le_of_ble_eq_true rfl, Nat.le_of_ble_eq_true rfl, rfl, by decide⟩ (by omega) (P := (fun v m' => zW E (d) 206 5 [(2, 69), (0, a0), (0, a1), (9, 0), (9, 0), (9, 0), (9, 0), (9, 0), (9, 0), (9, 0), (9, 0), (9, 0), (9, 0), (9, 0), (9, 0), (9, 0), (9, 0), (9, 0)] (if v.1 = 9 then [] else v :: []) m' Q)) ?_ (fun _ _ h => h)
  generalize hQ1 : (fun v m' => zW E (d) 206 5 [(2, 69), (0, a0), (0, a1), (9, 0), (9, 0), (9, 0), (9, 0), (9, 0), (9, 0), (9, 0), (9, 0), (9, 0), (9, 0), (9, 0), (9, 0), (9, 0), (9, 0), (9, 0)] (if v.1 = 9 then [] else v :: []) m' Q) = Q1
  show zW E (d - 1) 143 0 [(2, 69), (0, a0)] [] m0 Q1
  refine zw_3 zr_143_0 rfl ?_
  refine zw_36 zr_143_1 ?_
  refine zw_push zr_143_2 ?_
  refine zw_7 zr_143_3 rfl ?_
  refine zw_C zr_143_4 (Or.inl rfl) zm_141 rfl rfl ⟨Nat.le_of_ble_eq_true rfl, Nat.le_of_ble_eq_true rfl, Nat.le_of_ble_eq_true rfl, rfl, by decide⟩ (by omega) (P := (fun v m' => zW E (d - 1) 143 7 [(2, 69), (0, a0)] (if v.1 = 9 then [(1, 0), (1, a0)] else v :: [(1, 0), (1, a0)]) m' Q1)) ?_ (fun _ _ h => h)
  generalize hQ2 : (fun v m' => zW E (d - 1) 143 7 [(2, 69), (0, a0)] (if v.1 = 9 then [(1, 0), (1, a0)] else v :: [(1, 0), (1, a0)]) m' Q1) = Q2
  show zW E (d - 1 - 1) 141 0 [(2, 69)] [] m0 Q2
  refine zw_7 zr_141_0 rfl ?_
  refine zw_46r (s := 70) zr_141_1 rfl rfl rfl rfl ?_
  refine zw_push zr_141_4 ?_
  refine zw_48k (c := 70) (len := 826) zr_141_7 rfl rfl (by omega) (by omega) (show (822 : Int).toNat = 822 by omega) hg0 ?_
  have qg0 : g0 = F70 822 := by rw [← hG70]; exact (hg0).symm
  refine zw_R zr_141_8 (by decide) zm_141 (v := (0, g0)) rfl ?_
  rw [← hQ2]
  show zW E (d - 1) 143 7 [(2, 69), (0, a0)] [(0, g0), (1, 0), (1, a0)] m0 Q1
  refine zw_push zr_143_7 ?_
  refine zw_17 zr_143_8 (by omega) ?_
  refine zw_36 zr_143_9 ?_
  refine zw_C zr_143_10 (Or.inr rfl) zm_140 rfl rfl ⟨Nat.le_of_ble_eq_true rfl, Nat.le_of_ble_eq_true rfl, Nat.le_of_ble_eq_true rfl, rfl, by decide⟩ (by omega) (P := (fun v m' => zW E (d - 1) 143 13 [(2, 69), (0, a0)] (if v.1 = 9 then [] else v :: []) m' Q1)) ?_ (fun _ _ h => h)
  generalize hQ2 : (fun v m' => zW E (d - 1) 143 13 [(2, 69), (0, a0)] (if v.1 = 9 then [] else v :: []) m' Q1) = Q2
  show zW E (d - 1 - 1) 140 0 [(1, a0), (9, 0), (1, 0), (9, 0), (1, (g0 - 1)), (9, 0)] [] m0 Q2
  refine zw_5 zr_140_0 rfl ?_
  refine zw_5 zr_140_1 rfl ?_
  refine zw_39_0 zr_140_2 zr_140_3 ?_ ?_
  · intro h1
    refine zw_push zr_140_17 ?_
    refine zw_R zr_140_18 (by decide) zm_140 (v := (0, 0)) (zRetB (by omega)) ?_
    rw [← hQ2]
    show zW E (d - 1) 143 13 [(2, 69), (0, a0)] [(0, 0)] m0 Q1
    refine zw_R zr_143_13 (by decide) zm_143 (v := (0, 0)) (zRetB (by omega)) ?_
    rw [← hQ1]
    show zW E (d) 206 5 [(2, 69), (0, a0), (0, a1), (9, 0), (9, 0), (9, 0), (9, 0), (9, 0), (9, 0), (9, 0), (9, 0), (9, 0), (9, 0), (9, 0), (9, 0), (9, 0), (9, 0), (9, 0)] [(0, 0)] m0 Q
    refine zw_40_1 zr_206_5 ?_ ?_
    · intro h2
      refine zw_push zr_206_18 ?_
      refine zw_R zr_206_20 (by decide) zm_206 (v := (0, (-2))) rfl ?_
      rw [← hQ]; exact ⟨_, rfl, by omega, by omega, hI0, hF0, by omega, by first | exact Or.inr (Or.inr ⟨by decide, hg1, hg2⟩) | exact Or.inl ⟨rfl, by omega, by rw [hg1, hg2, show F70 (10 + 8 * a0 + 2 * 0).toNat + F70 (10 + 8 * a0 + 2 * (0 + 1)).toNat + F70 (10 + 8 * a0 + 2 * ((0 + 1) + 1)).toNat + F70 (10 + 8 * a0 + 2 * (((0 + 1) + 1) + 1)).toNat = zz by omega, show F70 (10 + 8 * a0 + 2 * 0 + 1).toNat + F70 (10 + 8 * a0 + 2 * (0 + 1) + 1).toNat + F70 (10 + 8 * a0 + 2 * ((0 + 1) + 1) + 1).toNat + F70 (10 + 8 * a0 + 2 * (((0 + 1) + 1) + 1) + 1).toNat = zz by omega]; exact zz⟩ | exact Or.inr (Or.inl ⟨rfl, by omega, by rw [hg1, hg2]; exact hF⟩)⟩
    · intro h5; omega
  · intro h6
    refine zw_5 zr_140_6 rfl ?_
    refine zw_6 zr_140_7 rfl ?_
    refine zw_39_2 zr_140_9 zr_140_10 ?_ ?_
    · intro h7
      refine zw_push zr_140_17 ?_
      refine zw_R zr_140_18 (by decide) zm_140 (v := (0, 0)) (zRetB (by omega)) ?_
      rw [← hQ2]
      show zW E (d - 1) 143 13 [(2, 69), (0, a0)] [(0, 0)] m0 Q1
      refine zw_R zr_143_13 (by decide) zm_143 (v := (0, 0)) (zRetB (by omega)) ?_
      rw [← hQ1]
      show zW E (d) 206 5 [(2, 69), (0, a0), (0, a1), (9, 0), (9, 0), (9, 0), (9, 0), (9, 0), (9, 0), (9, 0), (9, 0), (9, 0), (9, 0), (9, 0), (9, 0), (9, 0), (9, 0), (9, 0)] [(0, 0)] m0 Q
      refine zw_40_1 zr_206_5 ?_ ?_
      · intro h8
        refine zw_push zr_206_18 ?_
        refine zw_R zr_206_20 (by decide) zm_206 (v := (0, (-2))) rfl ?_
        rw [← hQ]; exact ⟨_, rfl, by omega, by omega, hI0, hF0, by omega, by first | exact Or.inr (Or.inr ⟨by decide, hg1, hg2⟩) | exact Or.inl ⟨rfl, by omega, by rw [hg1, hg2, show F70 (10 + 8 * a0 + 2 * 0).toNat + F70 (10 + 8 * a0 + 2 * (0 + 1)).toNat + F70 (10 + 8 * a0 + 2 * ((0 + 1) + 1)).toNat + F70 (10 + 8 * a0 + 2 * (((0 + 1) + 1) + 1)).toNat = zz by omega, show F70 (10 + 8 * a0 + 2 * 0 + 1).toNat + F70 (10 + 8 * a0 + 2 * (0 + 1) + 1).toNat + F70 (10 + 8 * a0 + 2 * ((0 + 1) + 1) + 1).toNat + F70 (10 + 8 * a0 + 2 * (((0 + 1) + 1) + 1) + 1).toNat = zz by omega]; exact zz⟩ | exact Or.inr (Or.inl ⟨rfl, by omega, by rw [hg1, hg2]; exact hF⟩)⟩
      · intro h11; omega
    · intro h12
      refine zw_push zr_140_13 ?_
      refine zw_42 zr_140_14 ?_
      refine zw_R zr_140_18 (by decide) zm_140 (v := (0, 1)) (zRetB (by omega)) ?_
      rw [← hQ2]
      show zW E (d - 1) 143 13 [(2, 69), (0, a0)] [(0, 1)] m0 Q1
      refine zw_R zr_143_13 (by decide) zm_143 (v := (0, 1)) (zRetB (by omega)) ?_
      rw [← hQ1]
      show zW E (d) 206 5 [(2, 69), (0, a0), (0, a1), (9, 0), (9, 0), (9, 0), (9, 0), (9, 0), (9, 0), (9, 0), (9, 0), (9, 0), (9, 0), (9, 0), (9, 0), (9, 0), (9, 0), (9, 0)] [(0, 1)] m0 Q
      refine zw_40_1 zr_206_5 ?_ ?_
      · intro h13; omega
      · intro h14
        refine zw_3 zr_206_8 rfl ?_
        refine zw_36 zr_206_9 ?_
        refine zw_push zr_206_10 ?_
        refine zw_push zr_206_11 ?_
        refine zw_C zr_206_12 (Or.inr rfl) zm_140 rfl rfl ⟨Nat.le_of_ble_eq_true rfl, Nat.le_of_ble_eq_true rfl, Nat.le_of_ble_eq_true rfl, rfl, by decide⟩ (by omega) (P := (fun v m' => zW E (d) 206 15 [(2, 69), (0, a0), (0, a1), (9, 0), (9, 0), (9, 0), (9, 0), (9, 0), (9, 0), (9, 0), (9, 0), (9, 0), (9, 0), (9, 0), (9, 0), (9, 0), (9, 0), (9, 0)] (if v.1 = 9 then [] else v :: []) m' Q)) ?_ (fun _ _ h => h)
        generalize hQ1 : (fun v m' => zW E (d) 206 15 [(2, 69), (0, a0), (0, a1), (9, 0), (9, 0), (9, 0), (9, 0), (9, 0), (9, 0), (9, 0), (9, 0), (9, 0), (9, 0), (9, 0), (9, 0), (9, 0), (9, 0), (9, 0)] (if v.1 = 9 then [] else v :: []) m' Q) = Q1
        show zW E (d - 1) 140 0 [(1, a1), (9, 0), (1, 0), (9, 0), (1, 1), (9, 0)] [] m0 Q1
        refine zw_5 zr_140_0 rfl ?_
        refine zw_5 zr_140_1 rfl ?_
        refine zw_39_0 zr_140_2 zr_140_3 ?_ ?_
        · intro h15
          refine zw_push zr_140_17 ?_
          refine zw_R zr_140_18 (by decide) zm_140 (v := (0, 0)) (zRetB (by omega)) ?_
          rw [← hQ1]
          show zW E (d) 206 15 [(2, 69), (0, a0), (0, a1), (9, 0), (9, 0), (9, 0), (9, 0), (9, 0), (9, 0), (9, 0), (9, 0), (9, 0), (9, 0), (9, 0), (9, 0), (9, 0), (9, 0), (9, 0)] [(0, 0)] m0 Q
          refine zw_40_4 zr_206_15 ?_ ?_
          · intro h16; omega
          · intro h17
            refine zw_push zr_206_18 ?_
            refine zw_R zr_206_20 (by decide) zm_206 (v := (0, (-2))) rfl ?_
            rw [← hQ]; exact ⟨_, rfl, by omega, by omega, hI0, hF0, by omega, by first | exact Or.inr (Or.inr ⟨by decide, hg1, hg2⟩) | exact Or.inl ⟨rfl, by omega, by rw [hg1, hg2, show F70 (10 + 8 * a0 + 2 * 0).toNat + F70 (10 + 8 * a0 + 2 * (0 + 1)).toNat + F70 (10 + 8 * a0 + 2 * ((0 + 1) + 1)).toNat + F70 (10 + 8 * a0 + 2 * (((0 + 1) + 1) + 1)).toNat = zz by omega, show F70 (10 + 8 * a0 + 2 * 0 + 1).toNat + F70 (10 + 8 * a0 + 2 * (0 + 1) + 1).toNat + F70 (10 + 8 * a0 + 2 * ((0 + 1) + 1) + 1).toNat + F70 (10 + 8 * a0 + 2 * (((0 + 1) + 1) + 1) + 1).toNat = zz by omega]; exact zz⟩ | exact Or.inr (Or.inl ⟨rfl, by omega, by rw [hg1, hg2]; exact hF⟩)⟩
        · intro h20
          refine zw_5 zr_140_6 rfl ?_
          refine zw_6 zr_140_7 rfl ?_
          refine zw_39_2 zr_140_9 zr_140_10 ?_ ?_
          · intro h21
            refine zw_push zr_140_17 ?_
            refine zw_R zr_140_18 (by decide) zm_140 (v := (0, 0)) (zRetB (by omega)) ?_
            rw [← hQ1]
            show zW E (d) 206 15 [(2, 69), (0, a0), (0, a1), (9, 0), (9, 0), (9, 0), (9, 0), (9, 0), (9, 0), (9, 0), (9, 0), (9, 0), (9, 0), (9, 0), (9, 0), (9, 0), (9, 0), (9, 0)] [(0, 0)] m0 Q
            refine zw_40_4 zr_206_15 ?_ ?_
            · intro h22; omega
            · intro h23
              refine zw_push zr_206_18 ?_
              refine zw_R zr_206_20 (by decide) zm_206 (v := (0, (-2))) rfl ?_
              rw [← hQ]; exact ⟨_, rfl, by omega, by omega, hI0, hF0, by omega, by first | exact Or.inr (Or.inr ⟨by decide, hg1, hg2⟩) | exact Or.inl ⟨rfl, by omega, by rw [hg1, hg2, show F70 (10 + 8 * a0 + 2 * 0).toNat + F70 (10 + 8 * a0 + 2 * (0 + 1)).toNat + F70 (10 + 8 * a0 + 2 * ((0 + 1) + 1)).toNat + F70 (10 + 8 * a0 + 2 * (((0 + 1) + 1) + 1)).toNat = zz by omega, show F70 (10 + 8 * a0 + 2 * 0 + 1).toNat + F70 (10 + 8 * a0 + 2 * (0 + 1) + 1).toNat + F70 (10 + 8 * a0 + 2 * ((0 + 1) + 1) + 1).toNat + F70 (10 + 8 * a0 + 2 * (((0 + 1) + 1) + 1) + 1).toNat = zz by omega]; exact zz⟩ | exact Or.inr (Or.inl ⟨rfl, by omega, by rw [hg1, hg2]; exact hF⟩)⟩
          · intro h26
            refine zw_push zr_140_13 ?_
            refine zw_42 zr_140_14 ?_
            refine zw_R zr_140_18 (by decide) zm_140 (v := (0, 1)) (zRetB (by omega)) ?_
            rw [← hQ1]
            show zW E (d) 206 15 [(2, 69), (0, a0), (0, a1), (9, 0), (9, 0), (9, 0), (9, 0), (9, 0), (9, 0), (9, 0), (9, 0), (9, 0), (9, 0), (9, 0), (9, 0), (9, 0), (9, 0), (9, 0)] [(0, 1)] m0 Q
            refine zw_40_4 zr_206_15 ?_ ?_
            · intro h27
              have hm0 : F70 (10 + 8 * a0 + 2 * 0 + 1).toNat ≠ 0 ∨ F70 (10 + 8 * a0 + 2 * 0).toNat = 0 := by have z := hp0 (4 * a0.toNat + 0) (by omega); rw [show (10 + 8 * a0 + 2 * 0 + 1).toNat = 11 + 2 * (4 * a0.toNat + 0) by omega, show (10 + 8 * a0 + 2 * 0).toNat = 10 + 2 * (4 * a0.toNat + 0) by omega]; exact z
              have hm1 : F70 (10 + 8 * a0 + 2 * (0 + 1) + 1).toNat ≠ 0 ∨ F70 (10 + 8 * a0 + 2 * (0 + 1)).toNat = 0 := by have z := hp0 (4 * a0.toNat + 1) (by omega); rw [show (10 + 8 * a0 + 2 * (0 + 1) + 1).toNat = 11 + 2 * (4 * a0.toNat + 1) by omega, show (10 + 8 * a0 + 2 * (0 + 1)).toNat = 10 + 2 * (4 * a0.toNat + 1) by omega]; exact z
              have hm2 : F70 (10 + 8 * a0 + 2 * ((0 + 1) + 1) + 1).toNat ≠ 0 ∨ F70 (10 + 8 * a0 + 2 * ((0 + 1) + 1)).toNat = 0 := by have z := hp0 (4 * a0.toNat + 2) (by omega); rw [show (10 + 8 * a0 + 2 * ((0 + 1) + 1) + 1).toNat = 11 + 2 * (4 * a0.toNat + 2) by omega, show (10 + 8 * a0 + 2 * ((0 + 1) + 1)).toNat = 10 + 2 * (4 * a0.toNat + 2) by omega]; exact z
              have hm3 : F70 (10 + 8 * a0 + 2 * (((0 + 1) + 1) + 1) + 1).toNat ≠ 0 ∨ F70 (10 + 8 * a0 + 2 * (((0 + 1) + 1) + 1)).toNat = 0 := by have z := hp0 (4 * a0.toNat + 3) (by omega); rw [show (10 + 8 * a0 + 2 * (((0 + 1) + 1) + 1) + 1).toNat = 11 + 2 * (4 * a0.toNat + 3) by omega, show (10 + 8 * a0 + 2 * (((0 + 1) + 1) + 1)).toNat = 10 + 2 * (4 * a0.toNat + 3) by omega]; exact z
              refine zw_push zr_206_21 ?_
              refine zw_13 (L' := [(2, 69), (0, a0), (0, a1), (1, 0), (9, 0), (9, 0), (9, 0), (9, 0), (9, 0), (9, 0), (9, 0), (9, 0), (9, 0), (9, 0), (9, 0), (9, 0), (9, 0), (9, 0)]) zr_206_22 (Nat.le_of_ble_eq_true rfl) rfl ?_
              refine zw_push zr_206_23 ?_
              refine zw_14 (L' := [(2, 69), (0, a0), (0, a1), (1, 0), (9, 0), (1, 0), (9, 0), (9, 0), (9, 0), (9, 0), (9, 0), (9, 0), (9, 0), (9, 0), (9, 0), (9, 0), (9, 0), (9, 0)]) zr_206_24 (Nat.le_of_ble_eq_true rfl) rfl ?_
              refine zw_push zr_206_26 ?_
              refine zw_14 (L' := [(2, 69), (0, a0), (0, a1), (1, 0), (9, 0), (1, 0), (9, 0), (1, 0), (9, 0), (9, 0), (9, 0), (9, 0), (9, 0), (9, 0), (9, 0), (9, 0), (9, 0), (9, 0)]) zr_206_27 (Nat.le_of_ble_eq_true rfl) rfl ?_
              refine zw_push zr_206_29 ?_
              refine zw_14 (L' := [(2, 69), (0, a0), (0, a1), (1, 0), (9, 0), (1, 0), (9, 0), (1, 0), (9, 0), (1, 1), (9, 0), (9, 0), (9, 0), (9, 0), (9, 0), (9, 0), (9, 0), (9, 0)]) zr_206_30 (Nat.le_of_ble_eq_true rfl) rfl ?_
              refine zw_push zr_206_32 ?_
              refine zw_14 (L' := [(2, 69), (0, a0), (0, a1), (1, 0), (9, 0), (1, 0), (9, 0), (1, 0), (9, 0), (1, 1), (9, 0), (1, 0), (9, 0), (9, 0), (9, 0), (9, 0), (9, 0), (9, 0)]) zr_206_33 (Nat.le_of_ble_eq_true rfl) rfl ?_
              refine zw_push zr_206_35 ?_
              refine zw_10 (L' := [(2, 69), (0, a0), (0, a1), (1, 0), (9, 0), (1, 0), (9, 0), (1, 0), (9, 0), (1, 1), (9, 0), (1, 0), (9, 0), (0, 0), (9, 0), (9, 0), (9, 0), (9, 0)]) zr_206_36 (Nat.le_of_ble_eq_true rfl) rfl ?_
              have hP0 : ((0 : Int), (1 : Int), (0 : Int)) = prs (fun c => F70 (10 + 8 * a0.toNat + 2 * c)) (fun c => F70 (11 + 8 * a0.toNat + 2 * c)) (fun c => F70 (818 + c)) 0 := rfl
              refine zw_4 zr_206_38 rfl ?_
              refine zw_push zr_206_40 ?_
              refine zw_41_3 zr_206_41 ?_ ?_
              · intro h32; omega
              · intro h33
                refine zw_7 zr_206_44 rfl ?_
                refine zw_46r (s := 70) zr_206_45 rfl rfl rfl rfl ?_
                refine zw_push zr_206_48 ?_
                refine zw_push zr_206_50 ?_
                refine zw_3 zr_206_52 rfl ?_
                refine zw_18 zr_206_53 (by omega) ?_
                refine zw_16 zr_206_54 (by omega) ?_
                refine zw_push zr_206_55 ?_
                refine zw_4 zr_206_56 rfl ?_
                refine zw_18 zr_206_58 (by omega) ?_
                refine zw_16 zr_206_59 (by omega) ?_
                refine zw_48 (c := 70) (len := 826) zr_206_60 rfl rfl (by omega) (by omega) ?_
                intro x34 ex34
                have bx34 := ib_70_moves hI0 (k := (((10 + (8 * a0)) + (2 * 0))).toNat) (by omega)
                rw [← ex34] at bx34
                have qx34 : x34 = F70 (((10 + (8 * a0)) + (2 * 0))).toNat := by rw [← hG70]; exact ex34
                clear ex34
                skip
                refine zw_36 zr_206_61 ?_
                refine zw_14 (L' := [(2, 69), (0, a0), (0, a1), (1, 0), (9, 0), (1, 0), (9, 0), (1, 0), (9, 0), (1, 1), (9, 0), (1, 0), (9, 0), (0, 0), (1, x34), (9, 0), (9, 0), (9, 0)]) zr_206_62 (Nat.le_of_ble_eq_true rfl) rfl ?_
                refine zw_7 zr_206_64 rfl ?_
                refine zw_46r (s := 70) zr_206_65 rfl rfl rfl rfl ?_
                refine zw_push zr_206_68 ?_
                refine zw_push zr_206_70 ?_
                refine zw_3 zr_206_72 rfl ?_
                refine zw_18 zr_206_73 (by omega) ?_
                refine zw_16 zr_206_74 (by omega) ?_
                refine zw_push zr_206_75 ?_
                refine zw_4 zr_206_76 rfl ?_
                refine zw_18 zr_206_78 (by omega) ?_
                refine zw_16 zr_206_79 (by omega) ?_
                refine zw_push zr_206_80 ?_
                refine zw_16 zr_206_81 (by omega) ?_
                refine zw_48 (c := 70) (len := 826) zr_206_82 rfl rfl (by omega) (by omega) ?_
                intro x35 ex35
                have bx35 := ib_70_moves hI0 (k := ((((10 + (8 * a0)) + (2 * 0)) + 1)).toNat) (by omega)
                rw [← ex35] at bx35
                have qx35 : x35 = F70 ((((10 + (8 * a0)) + (2 * 0)) + 1)).toNat := by rw [← hG70]; exact ex35
                clear ex35
                skip
                skip
                refine zw_36 zr_206_83 ?_
                refine zw_14 (L' := [(2, 69), (0, a0), (0, a1), (1, 0), (9, 0), (1, 0), (9, 0), (1, 0), (9, 0), (1, 1), (9, 0), (1, 0), (9, 0), (0, 0), (1, x34), (9, 0), (1, x35), (9, 0)]) zr_206_84 (Nat.le_of_ble_eq_true rfl) rfl ?_
                refine zw_6 zr_206_86 rfl ?_
                refine zw_push zr_206_88 ?_
                refine zw_39_5 zr_206_89 zr_206_90 ?_ ?_
                · intro h36
                  have hP1 := prs_n (R := (fun c => F70 (10 + 8 * a0.toNat + 2 * c))) (A := (fun c => F70 (11 + 8 * a0.toNat + 2 * c))) (W := (fun c => F70 (818 + c))) (k := 1) hP0 rfl (qx35.trans (congrArg F70 (by omega))) (by omega)
                  refine zw_15 (c := 1) (L' := [(2, 69), (0, a0), (0, a1), (1, 0), (9, 0), (1, 0), (9, 0), (1, 0), (9, 0), (1, 1), (9, 0), (1, 0), (9, 0), (0, (0 + 1)), (1, x34), (9, 0), (1, x35), (9, 0)]) zr_206_155 rfl (by decide) (by omega) rfl ?_
                  refine zw_42 zr_206_158 ?_
                  skip
                  refine zw_4 zr_206_38 rfl ?_
                  refine zw_push zr_206_40 ?_
                  refine zw_41_3 zr_206_41 ?_ ?_
                  · intro h37; omega
                  · intro h38
                    refine zw_7 zr_206_44 rfl ?_
                    refine zw_46r (s := 70) zr_206_45 rfl rfl rfl rfl ?_
                    refine zw_push zr_206_48 ?_
                    refine zw_push zr_206_50 ?_
                    refine zw_3 zr_206_52 rfl ?_
                    refine zw_18 zr_206_53 (by omega) ?_
                    refine zw_16 zr_206_54 (by omega) ?_
                    refine zw_push zr_206_55 ?_
                    refine zw_4 zr_206_56 rfl ?_
                    refine zw_18 zr_206_58 (by omega) ?_
                    refine zw_16 zr_206_59 (by omega) ?_
                    refine zw_48 (c := 70) (len := 826) zr_206_60 rfl rfl (by omega) (by omega) ?_
                    intro x39 ex39
                    have bx39 := ib_70_moves hI0 (k := (((10 + (8 * a0)) + (2 * (0 + 1)))).toNat) (by omega)
                    rw [← ex39] at bx39
                    have qx39 : x39 = F70 (((10 + (8 * a0)) + (2 * (0 + 1)))).toNat := by rw [← hG70]; exact ex39
                    clear ex39
                    skip
                    refine zw_36 zr_206_61 ?_
                    refine zw_14 (L' := [(2, 69), (0, a0), (0, a1), (1, 0), (9, 0), (1, 0), (9, 0), (1, 0), (9, 0), (1, 1), (9, 0), (1, 0), (9, 0), (0, (0 + 1)), (1, x39), (9, 0), (1, x35), (9, 0)]) zr_206_62 (Nat.le_of_ble_eq_true rfl) rfl ?_
                    refine zw_7 zr_206_64 rfl ?_
                    refine zw_46r (s := 70) zr_206_65 rfl rfl rfl rfl ?_
                    refine zw_push zr_206_68 ?_
                    refine zw_push zr_206_70 ?_
                    refine zw_3 zr_206_72 rfl ?_
                    refine zw_18 zr_206_73 (by omega) ?_
                    refine zw_16 zr_206_74 (by omega) ?_
                    refine zw_push zr_206_75 ?_
                    refine zw_4 zr_206_76 rfl ?_
                    refine zw_18 zr_206_78 (by omega) ?_
                    refine zw_16 zr_206_79 (by omega) ?_
                    refine zw_push zr_206_80 ?_
                    refine zw_16 zr_206_81 (by omega) ?_
                    refine zw_48 (c := 70) (len := 826) zr_206_82 rfl rfl (by omega) (by omega) ?_
                    intro x40 ex40
                    have bx40 := ib_70_moves hI0 (k := ((((10 + (8 * a0)) + (2 * (0 + 1))) + 1)).toNat) (by omega)
                    rw [← ex40] at bx40
                    have qx40 : x40 = F70 ((((10 + (8 * a0)) + (2 * (0 + 1))) + 1)).toNat := by rw [← hG70]; exact ex40
                    clear ex40
                    skip
                    skip
                    refine zw_36 zr_206_83 ?_
                    refine zw_14 (L' := [(2, 69), (0, a0), (0, a1), (1, 0), (9, 0), (1, 0), (9, 0), (1, 0), (9, 0), (1, 1), (9, 0), (1, 0), (9, 0), (0, (0 + 1)), (1, x39), (9, 0), (1, x40), (9, 0)]) zr_206_84 (Nat.le_of_ble_eq_true rfl) rfl ?_
                    refine zw_6 zr_206_86 rfl ?_
                    refine zw_push zr_206_88 ?_
                    refine zw_39_5 zr_206_89 zr_206_90 ?_ ?_
                    · intro h41
                      have hP2 := prs_n (R := (fun c => F70 (10 + 8 * a0.toNat + 2 * c))) (A := (fun c => F70 (11 + 8 * a0.toNat + 2 * c))) (W := (fun c => F70 (818 + c))) (k := 2) hP1 rfl (qx40.trans (congrArg F70 (by omega))) (by omega)
                      refine zw_15 (c := 1) (L' := [(2, 69), (0, a0), (0, a1), (1, 0), (9, 0), (1, 0), (9, 0), (1, 0), (9, 0), (1, 1), (9, 0), (1, 0), (9, 0), (0, ((0 + 1) + 1)), (1, x39), (9, 0), (1, x40), (9, 0)]) zr_206_155 rfl (by decide) (by omega) rfl ?_
                      refine zw_42 zr_206_158 ?_
                      skip
                      refine zw_4 zr_206_38 rfl ?_
                      refine zw_push zr_206_40 ?_
                      refine zw_41_3 zr_206_41 ?_ ?_
                      · intro h42; omega
                      · intro h43
                        refine zw_7 zr_206_44 rfl ?_
                        refine zw_46r (s := 70) zr_206_45 rfl rfl rfl rfl ?_
                        refine zw_push zr_206_48 ?_
                        refine zw_push zr_206_50 ?_
                        refine zw_3 zr_206_52 rfl ?_
                        refine zw_18 zr_206_53 (by omega) ?_
                        refine zw_16 zr_206_54 (by omega) ?_
                        refine zw_push zr_206_55 ?_
                        refine zw_4 zr_206_56 rfl ?_
                        refine zw_18 zr_206_58 (by omega) ?_
                        refine zw_16 zr_206_59 (by omega) ?_
                        refine zw_48 (c := 70) (len := 826) zr_206_60 rfl rfl (by omega) (by omega) ?_
                        intro x44 ex44
                        have bx44 := ib_70_moves hI0 (k := (((10 + (8 * a0)) + (2 * ((0 + 1) + 1)))).toNat) (by omega)
                        rw [← ex44] at bx44
                        have qx44 : x44 = F70 (((10 + (8 * a0)) + (2 * ((0 + 1) + 1)))).toNat := by rw [← hG70]; exact ex44
                        clear ex44
                        skip
                        refine zw_36 zr_206_61 ?_
                        refine zw_14 (L' := [(2, 69), (0, a0), (0, a1), (1, 0), (9, 0), (1, 0), (9, 0), (1, 0), (9, 0), (1, 1), (9, 0), (1, 0), (9, 0), (0, ((0 + 1) + 1)), (1, x44), (9, 0), (1, x40), (9, 0)]) zr_206_62 (Nat.le_of_ble_eq_true rfl) rfl ?_
                        refine zw_7 zr_206_64 rfl ?_
                        refine zw_46r (s := 70) zr_206_65 rfl rfl rfl rfl ?_
                        refine zw_push zr_206_68 ?_
                        refine zw_push zr_206_70 ?_
                        refine zw_3 zr_206_72 rfl ?_
                        refine zw_18 zr_206_73 (by omega) ?_
                        refine zw_16 zr_206_74 (by omega) ?_
                        refine zw_push zr_206_75 ?_
                        refine zw_4 zr_206_76 rfl ?_
                        refine zw_18 zr_206_78 (by omega) ?_
                        refine zw_16 zr_206_79 (by omega) ?_
                        refine zw_push zr_206_80 ?_
                        refine zw_16 zr_206_81 (by omega) ?_
                        refine zw_48 (c := 70) (len := 826) zr_206_82 rfl rfl (by omega) (by omega) ?_
                        intro x45 ex45
                        have bx45 := ib_70_moves hI0 (k := ((((10 + (8 * a0)) + (2 * ((0 + 1) + 1))) + 1)).toNat) (by omega)
                        rw [← ex45] at bx45
                        have qx45 : x45 = F70 ((((10 + (8 * a0)) + (2 * ((0 + 1) + 1))) + 1)).toNat := by rw [← hG70]; exact ex45
                        clear ex45
                        skip
                        skip
                        refine zw_36 zr_206_83 ?_
                        refine zw_14 (L' := [(2, 69), (0, a0), (0, a1), (1, 0), (9, 0), (1, 0), (9, 0), (1, 0), (9, 0), (1, 1), (9, 0), (1, 0), (9, 0), (0, ((0 + 1) + 1)), (1, x44), (9, 0), (1, x45), (9, 0)]) zr_206_84 (Nat.le_of_ble_eq_true rfl) rfl ?_
                        refine zw_6 zr_206_86 rfl ?_
                        refine zw_push zr_206_88 ?_
                        refine zw_39_5 zr_206_89 zr_206_90 ?_ ?_
                        · intro h46
                          have hP3 := prs_n (R := (fun c => F70 (10 + 8 * a0.toNat + 2 * c))) (A := (fun c => F70 (11 + 8 * a0.toNat + 2 * c))) (W := (fun c => F70 (818 + c))) (k := 3) hP2 rfl (qx45.trans (congrArg F70 (by omega))) (by omega)
                          refine zw_15 (c := 1) (L' := [(2, 69), (0, a0), (0, a1), (1, 0), (9, 0), (1, 0), (9, 0), (1, 0), (9, 0), (1, 1), (9, 0), (1, 0), (9, 0), (0, (((0 + 1) + 1) + 1)), (1, x44), (9, 0), (1, x45), (9, 0)]) zr_206_155 rfl (by decide) (by omega) rfl ?_
                          refine zw_42 zr_206_158 ?_
                          skip
                          refine zw_4 zr_206_38 rfl ?_
                          refine zw_push zr_206_40 ?_
                          refine zw_41_3 zr_206_41 ?_ ?_
                          · intro h47; omega
                          · intro h48
                            refine zw_7 zr_206_44 rfl ?_
                            refine zw_46r (s := 70) zr_206_45 rfl rfl rfl rfl ?_
                            refine zw_push zr_206_48 ?_
                            refine zw_push zr_206_50 ?_
                            refine zw_3 zr_206_52 rfl ?_
                            refine zw_18 zr_206_53 (by omega) ?_
                            refine zw_16 zr_206_54 (by omega) ?_
                            refine zw_push zr_206_55 ?_
                            refine zw_4 zr_206_56 rfl ?_
                            refine zw_18 zr_206_58 (by omega) ?_
                            refine zw_16 zr_206_59 (by omega) ?_
                            refine zw_48 (c := 70) (len := 826) zr_206_60 rfl rfl (by omega) (by omega) ?_
                            intro x49 ex49
                            have bx49 := ib_70_moves hI0 (k := (((10 + (8 * a0)) + (2 * (((0 + 1) + 1) + 1)))).toNat) (by omega)
                            rw [← ex49] at bx49
                            have qx49 : x49 = F70 (((10 + (8 * a0)) + (2 * (((0 + 1) + 1) + 1)))).toNat := by rw [← hG70]; exact ex49
                            clear ex49
                            skip
                            refine zw_36 zr_206_61 ?_
                            refine zw_14 (L' := [(2, 69), (0, a0), (0, a1), (1, 0), (9, 0), (1, 0), (9, 0), (1, 0), (9, 0), (1, 1), (9, 0), (1, 0), (9, 0), (0, (((0 + 1) + 1) + 1)), (1, x49), (9, 0), (1, x45), (9, 0)]) zr_206_62 (Nat.le_of_ble_eq_true rfl) rfl ?_
                            refine zw_7 zr_206_64 rfl ?_
                            refine zw_46r (s := 70) zr_206_65 rfl rfl rfl rfl ?_
                            refine zw_push zr_206_68 ?_
                            refine zw_push zr_206_70 ?_
                            refine zw_3 zr_206_72 rfl ?_
                            refine zw_18 zr_206_73 (by omega) ?_
                            refine zw_16 zr_206_74 (by omega) ?_
                            refine zw_push zr_206_75 ?_
                            refine zw_4 zr_206_76 rfl ?_
                            refine zw_18 zr_206_78 (by omega) ?_
                            refine zw_16 zr_206_79 (by omega) ?_
                            refine zw_push zr_206_80 ?_
                            refine zw_16 zr_206_81 (by omega) ?_
                            refine zw_48 (c := 70) (len := 826) zr_206_82 rfl rfl (by omega) (by omega) ?_
                            intro x50 ex50
                            have bx50 := ib_70_moves hI0 (k := ((((10 + (8 * a0)) + (2 * (((0 + 1) + 1) + 1))) + 1)).toNat) (by omega)
                            rw [← ex50] at bx50
                            have qx50 : x50 = F70 ((((10 + (8 * a0)) + (2 * (((0 + 1) + 1) + 1))) + 1)).toNat := by rw [← hG70]; exact ex50
                            clear ex50
                            skip
                            skip
                            refine zw_36 zr_206_83 ?_
                            refine zw_14 (L' := [(2, 69), (0, a0), (0, a1), (1, 0), (9, 0), (1, 0), (9, 0), (1, 0), (9, 0), (1, 1), (9, 0), (1, 0), (9, 0), (0, (((0 + 1) + 1) + 1)), (1, x49), (9, 0), (1, x50), (9, 0)]) zr_206_84 (Nat.le_of_ble_eq_true rfl) rfl ?_
                            refine zw_6 zr_206_86 rfl ?_
                            refine zw_push zr_206_88 ?_
                            refine zw_39_5 zr_206_89 zr_206_90 ?_ ?_
                            · intro h51
                              have hP4 := prs_n (R := (fun c => F70 (10 + 8 * a0.toNat + 2 * c))) (A := (fun c => F70 (11 + 8 * a0.toNat + 2 * c))) (W := (fun c => F70 (818 + c))) (k := 4) hP3 rfl (qx50.trans (congrArg F70 (by omega))) (by omega)
                              refine zw_15 (c := 1) (L' := [(2, 69), (0, a0), (0, a1), (1, 0), (9, 0), (1, 0), (9, 0), (1, 0), (9, 0), (1, 1), (9, 0), (1, 0), (9, 0), (0, ((((0 + 1) + 1) + 1) + 1)), (1, x49), (9, 0), (1, x50), (9, 0)]) zr_206_155 rfl (by decide) (by omega) rfl ?_
                              refine zw_42 zr_206_158 ?_
                              skip
                              refine zw_4 zr_206_38 rfl ?_
                              refine zw_push zr_206_40 ?_
                              refine zw_41_3 zr_206_41 ?_ ?_
                              · intro h52
                                refine zw_6 zr_206_161 rfl ?_
                                refine zw_push zr_206_163 ?_
                                refine zw_39_4 zr_206_164 zr_206_165 ?_ ?_
                                · intro h53; omega
                                · intro h54
                                  refine zw_push zr_206_168 ?_
                                  refine zw_R zr_206_170 (by decide) zm_206 (v := (0, (-3))) rfl ?_
                                  rw [← hQ]; exact ⟨_, rfl, by omega, by omega, hI0, hF0, by omega, by first | exact Or.inr (Or.inr ⟨by decide, hg1, hg2⟩) | exact Or.inl ⟨rfl, by omega, by rw [hg1, hg2, show F70 (10 + 8 * a0 + 2 * 0).toNat + F70 (10 + 8 * a0 + 2 * (0 + 1)).toNat + F70 (10 + 8 * a0 + 2 * ((0 + 1) + 1)).toNat + F70 (10 + 8 * a0 + 2 * (((0 + 1) + 1) + 1)).toNat = 0 by omega, show F70 (10 + 8 * a0 + 2 * 0 + 1).toNat + F70 (10 + 8 * a0 + 2 * (0 + 1) + 1).toNat + F70 (10 + 8 * a0 + 2 * ((0 + 1) + 1) + 1).toNat + F70 (10 + 8 * a0 + 2 * (((0 + 1) + 1) + 1) + 1).toNat = 0 by omega]; exact zz⟩ | exact Or.inr (Or.inl ⟨rfl, by omega, by rw [hg1, hg2]; exact hF⟩)⟩
                              · intro h57; omega
                            · intro h58
                              refine zw_5 zr_206_93 rfl ?_
                              refine zw_6 zr_206_94 rfl ?_
                              refine zw_27 zr_206_96 (by omega) ?_
                              refine zw_13 (L' := [(2, 69), (0, a0), (0, a1), (1, (0 + x49)), (9, 0), (1, 0), (9, 0), (1, 0), (9, 0), (1, 1), (9, 0), (1, 0), (9, 0), (0, (((0 + 1) + 1) + 1)), (1, x49), (9, 0), (1, x50), (9, 0)]) zr_206_97 (Nat.le_of_ble_eq_true rfl) rfl ?_
                              refine zw_6 zr_206_98 rfl ?_
                              refine zw_6 zr_206_100 rfl ?_
                              refine zw_27 zr_206_102 (by omega) ?_
                              refine zw_14 (L' := [(2, 69), (0, a0), (0, a1), (1, (0 + x49)), (9, 0), (1, (0 + x50)), (9, 0), (1, 0), (9, 0), (1, 1), (9, 0), (1, 0), (9, 0), (0, (((0 + 1) + 1) + 1)), (1, x49), (9, 0), (1, x50), (9, 0)]) zr_206_103 (Nat.le_of_ble_eq_true rfl) rfl ?_
                              refine zw_6 zr_206_105 rfl ?_
                              refine zw_6 zr_206_107 rfl ?_
                              refine zw_29 zr_206_109 (by omega) ?_
                              skip
                              refine zw_7 zr_206_110 rfl ?_
                              refine zw_46r (s := 70) zr_206_111 rfl rfl rfl rfl ?_
                              refine zw_push zr_206_114 ?_
                              refine zw_4 zr_206_117 rfl ?_
                              refine zw_16 zr_206_119 (by omega) ?_
                              obtain ⟨f59, ef59⟩ : ∃ v, m0 70 821 = v := ⟨_, rfl⟩
                              have bf59 : 1 ≤ m0 70 821 ∧ m0 70 821 ≤ 9 := ib_70_weight hI0 (by omega)
                              rw [ef59] at bf59
                              refine zw_48k (c := 70) (len := 826) zr_206_120 rfl rfl (by omega) (by omega) (show ((818 + (((0 + 1) + 1) + 1)) : Int).toNat = 821 by omega) ef59 ?_
                              have qf59 : f59 = F70 ((818 + (((0 + 1) + 1) + 1)) : Int).toNat := by rw [show ((818 + (((0 + 1) + 1) + 1)) : Int).toNat = 821 by omega, ← hG70]; exact (ef59).symm
                              skip
                              refine zw_36 zr_206_121 ?_
                              refine zw_6 zr_206_122 rfl ?_
                              refine zw_29n (A := 9) (B := 99) zr_206_124 (by omega) (by omega) (by decide) ?_
                              intro x60 ex60 hx60a hx60b
                              skip
                              refine zw_6 zr_206_125 rfl ?_
                              refine zw_29 zr_206_127 (by omega) ?_
                              skip
                              refine zw_27 zr_206_128 (by omega) ?_
                              refine zw_14 (L' := [(2, 69), (0, a0), (0, a1), (1, (0 + x49)), (9, 0), (1, (0 + x50)), (9, 0), (1, ((0 * x50) + (x60 * 1))), (9, 0), (1, 1), (9, 0), (1, 0), (9, 0), (0, (((0 + 1) + 1) + 1)), (1, x49), (9, 0), (1, x50), (9, 0)]) zr_206_129 (Nat.le_of_ble_eq_true rfl) rfl ?_
                              refine zw_6 zr_206_131 rfl ?_
                              refine zw_6 zr_206_133 rfl ?_
                              refine zw_29 zr_206_135 (by omega) ?_
                              skip
                              skip
                              refine zw_14 (L' := [(2, 69), (0, a0), (0, a1), (1, (0 + x49)), (9, 0), (1, (0 + x50)), (9, 0), (1, ((0 * x50) + (x60 * 1))), (9, 0), (1, (1 * x50)), (9, 0), (1, 0), (9, 0), (0, (((0 + 1) + 1) + 1)), (1, x49), (9, 0), (1, x50), (9, 0)]) zr_206_136 (Nat.le_of_ble_eq_true rfl) rfl ?_
                              refine zw_6 zr_206_138 rfl ?_
                              refine zw_7 zr_206_140 rfl ?_
                              refine zw_46r (s := 70) zr_206_141 rfl rfl rfl rfl ?_
                              refine zw_push zr_206_144 ?_
                              refine zw_4 zr_206_147 rfl ?_
                              refine zw_16 zr_206_149 (by omega) ?_
                              refine zw_48k (c := 70) (len := 826) zr_206_150 rfl rfl (by omega) (by omega) (show ((818 + (((0 + 1) + 1) + 1)) : Int).toNat = 821 by omega) ef59 ?_
                              have qf59 : f59 = F70 ((818 + (((0 + 1) + 1) + 1)) : Int).toNat := by rw [show ((818 + (((0 + 1) + 1) + 1)) : Int).toNat = 821 by omega, ← hG70]; exact (ef59).symm
                              refine zw_36 zr_206_151 ?_
                              refine zw_27 zr_206_152 (by omega) ?_
                              refine zw_14 (L' := [(2, 69), (0, a0), (0, a1), (1, (0 + x49)), (9, 0), (1, (0 + x50)), (9, 0), (1, ((0 * x50) + (x60 * 1))), (9, 0), (1, (1 * x50)), (9, 0), (1, (0 + f59)), (9, 0), (0, (((0 + 1) + 1) + 1)), (1, x49), (9, 0), (1, x50), (9, 0)]) zr_206_153 (Nat.le_of_ble_eq_true rfl) rfl ?_
                              have hP4 := prs_r (R := (fun c => F70 (10 + 8 * a0.toNat + 2 * c))) (A := (fun c => F70 (11 + 8 * a0.toNat + 2 * c))) (W := (fun c => F70 (818 + c))) (k := 4) hP3 rfl (qx49.trans (congrArg F70 (by omega))) (qx50.trans (congrArg F70 (by omega))) (qf59.trans (congrArg F70 (by omega))) (by omega) rfl ex60 rfl rfl ⟨rfl, rfl⟩
                              refine zw_15 (c := 1) (L' := [(2, 69), (0, a0), (0, a1), (1, (0 + x49)), (9, 0), (1, (0 + x50)), (9, 0), (1, ((0 * x50) + (x60 * 1))), (9, 0), (1, (1 * x50)), (9, 0), (1, (0 + f59)), (9, 0), (0, ((((0 + 1) + 1) + 1) + 1)), (1, x49), (9, 0), (1, x50), (9, 0)]) zr_206_155 rfl (by decide) (by omega) rfl ?_
                              refine zw_42 zr_206_158 ?_
                              skip
                              refine zw_4 zr_206_38 rfl ?_
                              refine zw_push zr_206_40 ?_
                              refine zw_41_3 zr_206_41 ?_ ?_
                              · intro h61
                                refine zw_6 zr_206_161 rfl ?_
                                refine zw_push zr_206_163 ?_
                                refine zw_39_4 zr_206_164 zr_206_165 ?_ ?_
                                · intro h62
                                  refine zw_3 zr_206_171 rfl ?_
                                  refine zw_40_4 zr_206_172 ?_ ?_
                                  · intro h63
                                    refine zw_7 zr_206_185 rfl ?_
                                    refine zw_6 zr_206_186 rfl ?_
                                    refine zw_6 zr_206_188 rfl ?_
                                    refine zw_6 zr_206_190 rfl ?_
                                    refine zw_29s (A := 99) (B := 9) zr_206_192 (by omega) (by omega) (by decide) ?_
                                    intro x64 ex64 hx64a hx64b
                                    skip
                                    refine zw_C zr_206_193 (Or.inl rfl) zm_173 rfl rfl ⟨Nat.le_of_ble_eq_true rfl, Nat.le_of_ble_eq_true rfl, Nat.le_of_ble_eq_true rfl, rfl, by decide⟩ (by omega) (th_173 (d := d - 1) (by omega) hI0 (a0 := ((0 * x50) + (x60 * 1))) (a1 := x64)      (by omega) (by omega) ) ?_
                                    rintro _ m65 ⟨rfl, hIm65, gm65, po0_m65⟩
                                    have hFm65 : zFr W_206 m0 m65 := hF0.trans gm65 rfl
                                    have km65_70_822 : m65 70 822 = g0 := (gm65 70 822 rfl).trans hg0
                                    have km65_70_821 : m65 70 821 = f59 := (gm65 70 821 rfl).trans ef59
                                    have fm65_70 : m65 70 = F70 := (funext fun k => gm65 70 k rfl).trans hG70
                                    obtain ⟨f66, ef66⟩ : ∃ v, m65 69 3 = v := ⟨_, rfl⟩
                                    have bf66 := hIm65.fl (c := 69) (k := 3) rfl
                                    rw [ef66] at bf66
                                    rw [ef66] at po0_m65
                                    obtain ⟨f67, ef67⟩ : ∃ v, m65 69 4 = v := ⟨_, rfl⟩
                                    have bf67 := hIm65.fl (c := 69) (k := 4) rfl
                                    rw [ef67] at bf67
                                    rw [ef67] at po0_m65
                                    show zW E (d) 206 196 [(2, 69), (0, a0), (0, a1), (1, (0 + x49)), (9, 0), (1, (0 + x50)), (9, 0), (1, ((0 * x50) + (x60 * 1))), (9, 0), (1, (1 * x50)), (9, 0), (1, (0 + f59)), (9, 0), (0, ((((0 + 1) + 1) + 1) + 1)), (1, x49), (9, 0), (1, x50), (9, 0)] [] m65 Q
                                    have hF := prs_t hP4 ex64 po0_m65
                                    refine zw_push zr_206_196 ?_
                                    refine zw_R zr_206_197 (by decide) zm_206 (v := (0, 1)) rfl ?_
                                    rw [← hQ]; exact ⟨_, rfl, by omega, by omega, hIm65, hFm65, by omega, by first | exact Or.inr (Or.inr ⟨by decide, ef66, ef67⟩) | exact Or.inl ⟨rfl, by omega, by rw [ef66, ef67, show F70 (10 + 8 * a0 + 2 * 0).toNat + F70 (10 + 8 * a0 + 2 * (0 + 1)).toNat + F70 (10 + 8 * a0 + 2 * ((0 + 1) + 1)).toNat + F70 (10 + 8 * a0 + 2 * (((0 + 1) + 1) + 1)).toNat = (0 + x49) by omega, show F70 (10 + 8 * a0 + 2 * 0 + 1).toNat + F70 (10 + 8 * a0 + 2 * (0 + 1) + 1).toNat + F70 (10 + 8 * a0 + 2 * ((0 + 1) + 1) + 1).toNat + F70 (10 + 8 * a0 + 2 * (((0 + 1) + 1) + 1) + 1).toNat = (0 + x50) by omega]; exact po0_m65⟩ | exact Or.inr (Or.inl ⟨rfl, by omega, by rw [ef66, ef67]; exact hF⟩)⟩
                                  · intro h70
                                    refine zw_7 zr_206_175 rfl ?_
                                    refine zw_5 zr_206_176 rfl ?_
                                    refine zw_6 zr_206_177 rfl ?_
                                    refine zw_C zr_206_179 (Or.inl rfl) zm_173 rfl rfl ⟨Nat.le_of_ble_eq_true rfl, Nat.le_of_ble_eq_true rfl, Nat.le_of_ble_eq_true rfl, rfl, by decide⟩ (by omega) (th_173 (d := d - 1) (by omega) hI0 (a0 := (0 + x49)) (a1 := (0 + x50))      (by omega) (by omega) ) ?_
                                    rintro _ m71 ⟨rfl, hIm71, gm71, po0_m71⟩
                                    have hFm71 : zFr W_206 m0 m71 := hF0.trans gm71 rfl
                                    have km71_70_822 : m71 70 822 = g0 := (gm71 70 822 rfl).trans hg0
                                    have km71_70_821 : m71 70 821 = f59 := (gm71 70 821 rfl).trans ef59
                                    have fm71_70 : m71 70 = F70 := (funext fun k => gm71 70 k rfl).trans hG70
                                    obtain ⟨f72, ef72⟩ : ∃ v, m71 69 3 = v := ⟨_, rfl⟩
                                    have bf72 := hIm71.fl (c := 69) (k := 3) rfl
                                    rw [ef72] at bf72
                                    rw [ef72] at po0_m71
                                    obtain ⟨f73, ef73⟩ : ∃ v, m71 69 4 = v := ⟨_, rfl⟩
                                    have bf73 := hIm71.fl (c := 69) (k := 4) rfl
                                    rw [ef73] at bf73
                                    rw [ef73] at po0_m71
                                    show zW E (d) 206 182 [(2, 69), (0, a0), (0, a1), (1, (0 + x49)), (9, 0), (1, (0 + x50)), (9, 0), (1, ((0 * x50) + (x60 * 1))), (9, 0), (1, (1 * x50)), (9, 0), (1, (0 + f59)), (9, 0), (0, ((((0 + 1) + 1) + 1) + 1)), (1, x49), (9, 0), (1, x50), (9, 0)] [] m71 Q
                                    skip
                                    refine zw_42 zr_206_182 ?_
                                    refine zw_push zr_206_196 ?_
                                    refine zw_R zr_206_197 (by decide) zm_206 (v := (0, 1)) rfl ?_
                                    rw [← hQ]; exact ⟨_, rfl, by omega, by omega, hIm71, hFm71, by omega, by first | exact Or.inr (Or.inr ⟨by decide, ef72, ef73⟩) | exact Or.inl ⟨rfl, by omega, by rw [ef72, ef73, show F70 (10 + 8 * a0 + 2 * 0).toNat + F70 (10 + 8 * a0 + 2 * (0 + 1)).toNat + F70 (10 + 8 * a0 + 2 * ((0 + 1) + 1)).toNat + F70 (10 + 8 * a0 + 2 * (((0 + 1) + 1) + 1)).toNat = (0 + x49) by omega, show F70 (10 + 8 * a0 + 2 * 0 + 1).toNat + F70 (10 + 8 * a0 + 2 * (0 + 1) + 1).toNat + F70 (10 + 8 * a0 + 2 * ((0 + 1) + 1) + 1).toNat + F70 (10 + 8 * a0 + 2 * (((0 + 1) + 1) + 1) + 1).toNat = (0 + x50) by omega]; exact po0_m71⟩ | exact Or.inr (Or.inl ⟨rfl, by omega, by rw [ef72, ef73]; exact hF⟩)⟩
                                · intro h76; omega
                              · intro h77; omega
                        · intro h78
                          refine zw_5 zr_206_93 rfl ?_
                          refine zw_6 zr_206_94 rfl ?_
                          refine zw_27 zr_206_96 (by omega) ?_
                          refine zw_13 (L' := [(2, 69), (0, a0), (0, a1), (1, (0 + x44)), (9, 0), (1, 0), (9, 0), (1, 0), (9, 0), (1, 1), (9, 0), (1, 0), (9, 0), (0, ((0 + 1) + 1)), (1, x44), (9, 0), (1, x45), (9, 0)]) zr_206_97 (Nat.le_of_ble_eq_true rfl) rfl ?_
                          refine zw_6 zr_206_98 rfl ?_
                          refine zw_6 zr_206_100 rfl ?_
                          refine zw_27 zr_206_102 (by omega) ?_
                          refine zw_14 (L' := [(2, 69), (0, a0), (0, a1), (1, (0 + x44)), (9, 0), (1, (0 + x45)), (9, 0), (1, 0), (9, 0), (1, 1), (9, 0), (1, 0), (9, 0), (0, ((0 + 1) + 1)), (1, x44), (9, 0), (1, x45), (9, 0)]) zr_206_103 (Nat.le_of_ble_eq_true rfl) rfl ?_
                          refine zw_6 zr_206_105 rfl ?_
                          refine zw_6 zr_206_107 rfl ?_
                          refine zw_29 zr_206_109 (by omega) ?_
                          skip
                          refine zw_7 zr_206_110 rfl ?_
                          refine zw_46r (s := 70) zr_206_111 rfl rfl rfl rfl ?_
                          refine zw_push zr_206_114 ?_
                          refine zw_4 zr_206_117 rfl ?_
                          refine zw_16 zr_206_119 (by omega) ?_
                          obtain ⟨f79, ef79⟩ : ∃ v, m0 70 820 = v := ⟨_, rfl⟩
                          have bf79 : 1 ≤ m0 70 820 ∧ m0 70 820 ≤ 9 := ib_70_weight hI0 (by omega)
                          rw [ef79] at bf79
                          refine zw_48k (c := 70) (len := 826) zr_206_120 rfl rfl (by omega) (by omega) (show ((818 + ((0 + 1) + 1)) : Int).toNat = 820 by omega) ef79 ?_
                          have qf79 : f79 = F70 ((818 + ((0 + 1) + 1)) : Int).toNat := by rw [show ((818 + ((0 + 1) + 1)) : Int).toNat = 820 by omega, ← hG70]; exact (ef79).symm
                          skip
                          refine zw_36 zr_206_121 ?_
                          refine zw_6 zr_206_122 rfl ?_
                          refine zw_29n (A := 9) (B := 99) zr_206_124 (by omega) (by omega) (by decide) ?_
                          intro x80 ex80 hx80a hx80b
                          skip
                          refine zw_6 zr_206_125 rfl ?_
                          refine zw_29 zr_206_127 (by omega) ?_
                          skip
                          refine zw_27 zr_206_128 (by omega) ?_
                          refine zw_14 (L' := [(2, 69), (0, a0), (0, a1), (1, (0 + x44)), (9, 0), (1, (0 + x45)), (9, 0), (1, ((0 * x45) + (x80 * 1))), (9, 0), (1, 1), (9, 0), (1, 0), (9, 0), (0, ((0 + 1) + 1)), (1, x44), (9, 0), (1, x45), (9, 0)]) zr_206_129 (Nat.le_of_ble_eq_true rfl) rfl ?_
                          refine zw_6 zr_206_131 rfl ?_
                          refine zw_6 zr_206_133 rfl ?_
                          refine zw_29 zr_206_135 (by omega) ?_
                          skip
                          skip
                          refine zw_14 (L' := [(2, 69), (0, a0), (0, a1), (1, (0 + x44)), (9, 0), (1, (0 + x45)), (9, 0), (1, ((0 * x45) + (x80 * 1))), (9, 0), (1, (1 * x45)), (9, 0), (1, 0), (9, 0), (0, ((0 + 1) + 1)), (1, x44), (9, 0), (1, x45), (9, 0)]) zr_206_136 (Nat.le_of_ble_eq_true rfl) rfl ?_
                          refine zw_6 zr_206_138 rfl ?_
                          refine zw_7 zr_206_140 rfl ?_
                          refine zw_46r (s := 70) zr_206_141 rfl rfl rfl rfl ?_
                          refine zw_push zr_206_144 ?_
                          refine zw_4 zr_206_147 rfl ?_
                          refine zw_16 zr_206_149 (by omega) ?_
                          refine zw_48k (c := 70) (len := 826) zr_206_150 rfl rfl (by omega) (by omega) (show ((818 + ((0 + 1) + 1)) : Int).toNat = 820 by omega) ef79 ?_
                          have qf79 : f79 = F70 ((818 + ((0 + 1) + 1)) : Int).toNat := by rw [show ((818 + ((0 + 1) + 1)) : Int).toNat = 820 by omega, ← hG70]; exact (ef79).symm
                          refine zw_36 zr_206_151 ?_
                          refine zw_27 zr_206_152 (by omega) ?_
                          refine zw_14 (L' := [(2, 69), (0, a0), (0, a1), (1, (0 + x44)), (9, 0), (1, (0 + x45)), (9, 0), (1, ((0 * x45) + (x80 * 1))), (9, 0), (1, (1 * x45)), (9, 0), (1, (0 + f79)), (9, 0), (0, ((0 + 1) + 1)), (1, x44), (9, 0), (1, x45), (9, 0)]) zr_206_153 (Nat.le_of_ble_eq_true rfl) rfl ?_
                          have hP3 := prs_r (R := (fun c => F70 (10 + 8 * a0.toNat + 2 * c))) (A := (fun c => F70 (11 + 8 * a0.toNat + 2 * c))) (W := (fun c => F70 (818 + c))) (k := 3) hP2 rfl (qx44.trans (congrArg F70 (by omega))) (qx45.trans (congrArg F70 (by omega))) (qf79.trans (congrArg F70 (by omega))) (by omega) rfl ex80 rfl rfl ⟨rfl, rfl⟩
                          refine zw_15 (c := 1) (L' := [(2, 69), (0, a0), (0, a1), (1, (0 + x44)), (9, 0), (1, (0 + x45)), (9, 0), (1, ((0 * x45) + (x80 * 1))), (9, 0), (1, (1 * x45)), (9, 0), (1, (0 + f79)), (9, 0), (0, (((0 + 1) + 1) + 1)), (1, x44), (9, 0), (1, x45), (9, 0)]) zr_206_155 rfl (by decide) (by omega) rfl ?_
                          refine zw_42 zr_206_158 ?_
                          skip
                          refine zw_4 zr_206_38 rfl ?_
                          refine zw_push zr_206_40 ?_
                          refine zw_41_3 zr_206_41 ?_ ?_
                          · intro h81; omega
                          · intro h82
                            refine zw_7 zr_206_44 rfl ?_
                            refine zw_46r (s := 70) zr_206_45 rfl rfl rfl rfl ?_
                            refine zw_push zr_206_48 ?_
                            refine zw_push zr_206_50 ?_
                            refine zw_3 zr_206_52 rfl ?_
                            refine zw_18 zr_206_53 (by omega) ?_
                            refine zw_16 zr_206_54 (by omega) ?_
                            refine zw_push zr_206_55 ?_
                            refine zw_4 zr_206_56 rfl ?_
                            refine zw_18 zr_206_58 (by omega) ?_
                            refine zw_16 zr_206_59 (by omega) ?_
                            refine zw_48 (c := 70) (len := 826) zr_206_60 rfl rfl (by omega) (by omega) ?_
                            intro x83 ex83
                            have bx83 := ib_70_moves hI0 (k := (((10 + (8 * a0)) + (2 * (((0 + 1) + 1) + 1)))).toNat) (by omega)
                            rw [← ex83] at bx83
                            have qx83 : x83 = F70 (((10 + (8 * a0)) + (2 * (((0 + 1) + 1) + 1)))).toNat := by rw [← hG70]; exact ex83
                            clear ex83
                            skip
                            refine zw_36 zr_206_61 ?_
                            refine zw_14 (L' := [(2, 69), (0, a0), (0, a1), (1, (0 + x44)), (9, 0), (1, (0 + x45)), (9, 0), (1, ((0 * x45) + (x80 * 1))), (9, 0), (1, (1 * x45)), (9, 0), (1, (0 + f79)), (9, 0), (0, (((0 + 1) + 1) + 1)), (1, x83), (9, 0), (1, x45), (9, 0)]) zr_206_62 (Nat.le_of_ble_eq_true rfl) rfl ?_
                            refine zw_7 zr_206_64 rfl ?_
                            refine zw_46r (s := 70) zr_206_65 rfl rfl rfl rfl ?_
                            refine zw_push zr_206_68 ?_
                            refine zw_push zr_206_70 ?_
                            refine zw_3 zr_206_72 rfl ?_
                            refine zw_18 zr_206_73 (by omega) ?_
                            refine zw_16 zr_206_74 (by omega) ?_
                            refine zw_push zr_206_75 ?_
                            refine zw_4 zr_206_76 rfl ?_
                            refine zw_18 zr_206_78 (by omega) ?_
                            refine zw_16 zr_206_79 (by omega) ?_
                            refine zw_push zr_206_80 ?_
                            refine zw_16 zr_206_81 (by omega) ?_
                            refine zw_48 (c := 70) (len := 826) zr_206_82 rfl rfl (by omega) (by omega) ?_
                            intro x84 ex84
                            have bx84 := ib_70_moves hI0 (k := ((((10 + (8 * a0)) + (2 * (((0 + 1) + 1) + 1))) + 1)).toNat) (by omega)
                            rw [← ex84] at bx84
                            have qx84 : x84 = F70 ((((10 + (8 * a0)) + (2 * (((0 + 1) + 1) + 1))) + 1)).toNat := by rw [← hG70]; exact ex84
                            clear ex84
                            skip
                            skip
                            refine zw_36 zr_206_83 ?_
                            refine zw_14 (L' := [(2, 69), (0, a0), (0, a1), (1, (0 + x44)), (9, 0), (1, (0 + x45)), (9, 0), (1, ((0 * x45) + (x80 * 1))), (9, 0), (1, (1 * x45)), (9, 0), (1, (0 + f79)), (9, 0), (0, (((0 + 1) + 1) + 1)), (1, x83), (9, 0), (1, x84), (9, 0)]) zr_206_84 (Nat.le_of_ble_eq_true rfl) rfl ?_
                            refine zw_6 zr_206_86 rfl ?_
                            refine zw_push zr_206_88 ?_
                            refine zw_39_5 zr_206_89 zr_206_90 ?_ ?_
                            · intro h85
                              have hP4 := prs_n (R := (fun c => F70 (10 + 8 * a0.toNat + 2 * c))) (A := (fun c => F70 (11 + 8 * a0.toNat + 2 * c))) (W := (fun c => F70 (818 + c))) (k := 4) hP3 rfl (qx84.trans (congrArg F70 (by omega))) (by omega)
                              refine zw_15 (c := 1) (L' := [(2, 69), (0, a0), (0, a1), (1, (0 + x44)), (9, 0), (1, (0 + x45)), (9, 0), (1, ((0 * x45) + (x80 * 1))), (9, 0), (1, (1 * x45)), (9, 0), (1, (0 + f79)), (9, 0), (0, ((((0 + 1) + 1) + 1) + 1)), (1, x83), (9, 0), (1, x84), (9, 0)]) zr_206_155 rfl (by decide) (by omega) rfl ?_
                              refine zw_42 zr_206_158 ?_
                              skip
                              refine zw_4 zr_206_38 rfl ?_
                              refine zw_push zr_206_40 ?_
                              refine zw_41_3 zr_206_41 ?_ ?_
                              · intro h86
                                refine zw_6 zr_206_161 rfl ?_
                                refine zw_push zr_206_163 ?_
                                refine zw_39_4 zr_206_164 zr_206_165 ?_ ?_
                                · intro h87
                                  refine zw_3 zr_206_171 rfl ?_
                                  refine zw_40_4 zr_206_172 ?_ ?_
                                  · intro h88
                                    refine zw_7 zr_206_185 rfl ?_
                                    refine zw_6 zr_206_186 rfl ?_
                                    refine zw_6 zr_206_188 rfl ?_
                                    refine zw_6 zr_206_190 rfl ?_
                                    refine zw_29s (A := 99) (B := 9) zr_206_192 (by omega) (by omega) (by decide) ?_
                                    intro x89 ex89 hx89a hx89b
                                    skip
                                    refine zw_C zr_206_193 (Or.inl rfl) zm_173 rfl rfl ⟨Nat.le_of_ble_eq_true rfl, Nat.le_of_ble_eq_true rfl, Nat.le_of_ble_eq_true rfl, rfl, by decide⟩ (by omega) (th_173 (d := d - 1) (by omega) hI0 (a0 := ((0 * x45) + (x80 * 1))) (a1 := x89)      (by omega) (by omega) ) ?_
                                    rintro _ m90 ⟨rfl, hIm90, gm90, po0_m90⟩
                                    have hFm90 : zFr W_206 m0 m90 := hF0.trans gm90 rfl
                                    have km90_70_822 : m90 70 822 = g0 := (gm90 70 822 rfl).trans hg0
                                    have km90_70_820 : m90 70 820 = f79 := (gm90 70 820 rfl).trans ef79
                                    have fm90_70 : m90 70 = F70 := (funext fun k => gm90 70 k rfl).trans hG70
                                    obtain ⟨f91, ef91⟩ : ∃ v, m90 69 3 = v := ⟨_, rfl⟩
                                    have bf91 := hIm90.fl (c := 69) (k := 3) rfl
                                    rw [ef91] at bf91
                                    rw [ef91] at po0_m90
                                    obtain ⟨f92, ef92⟩ : ∃ v, m90 69 4 = v := ⟨_, rfl⟩
                                    have bf92 := hIm90.fl (c := 69) (k := 4) rfl
                                    rw [ef92] at bf92
                                    rw [ef92] at po0_m90
                                    show zW E (d) 206 196 [(2, 69), (0, a0), (0, a1), (1, (0 + x44)), (9, 0), (1, (0 + x45)), (9, 0), (1, ((0 * x45) + (x80 * 1))), (9, 0), (1, (1 * x45)), (9, 0), (1, (0 + f79)), (9, 0), (0, ((((0 + 1) + 1) + 1) + 1)), (1, x83), (9, 0), (1, x84), (9, 0)] [] m90 Q
                                    have hF := prs_t hP4 ex89 po0_m90
                                    refine zw_push zr_206_196 ?_
                                    refine zw_R zr_206_197 (by decide) zm_206 (v := (0, 1)) rfl ?_
                                    rw [← hQ]; exact ⟨_, rfl, by omega, by omega, hIm90, hFm90, by omega, by first | exact Or.inr (Or.inr ⟨by decide, ef91, ef92⟩) | exact Or.inl ⟨rfl, by omega, by rw [ef91, ef92, show F70 (10 + 8 * a0 + 2 * 0).toNat + F70 (10 + 8 * a0 + 2 * (0 + 1)).toNat + F70 (10 + 8 * a0 + 2 * ((0 + 1) + 1)).toNat + F70 (10 + 8 * a0 + 2 * (((0 + 1) + 1) + 1)).toNat = (0 + x44) by omega, show F70 (10 + 8 * a0 + 2 * 0 + 1).toNat + F70 (10 + 8 * a0 + 2 * (0 + 1) + 1).toNat + F70 (10 + 8 * a0 + 2 * ((0 + 1) + 1) + 1).toNat + F70 (10 + 8 * a0 + 2 * (((0 + 1) + 1) + 1) + 1).toNat = (0 + x45) by omega]; exact po0_m90⟩ | exact Or.inr (Or.inl ⟨rfl, by omega, by rw [ef91, ef92]; exact hF⟩)⟩
                                  · intro h95
                                    refine zw_7 zr_206_175 rfl ?_
                                    refine zw_5 zr_206_176 rfl ?_
                                    refine zw_6 zr_206_177 rfl ?_
                                    refine zw_C zr_206_179 (Or.inl rfl) zm_173 rfl rfl ⟨Nat.le_of_ble_eq_true rfl, Nat.le_of_ble_eq_true rfl, Nat.le_of_ble_eq_true rfl, rfl, by decide⟩ (by omega) (th_173 (d := d - 1) (by omega) hI0 (a0 := (0 + x44)) (a1 := (0 + x45))      (by omega) (by omega) ) ?_
                                    rintro _ m96 ⟨rfl, hIm96, gm96, po0_m96⟩
                                    have hFm96 : zFr W_206 m0 m96 := hF0.trans gm96 rfl
                                    have km96_70_822 : m96 70 822 = g0 := (gm96 70 822 rfl).trans hg0
                                    have km96_70_820 : m96 70 820 = f79 := (gm96 70 820 rfl).trans ef79
                                    have fm96_70 : m96 70 = F70 := (funext fun k => gm96 70 k rfl).trans hG70
                                    obtain ⟨f97, ef97⟩ : ∃ v, m96 69 3 = v := ⟨_, rfl⟩
                                    have bf97 := hIm96.fl (c := 69) (k := 3) rfl
                                    rw [ef97] at bf97
                                    rw [ef97] at po0_m96
                                    obtain ⟨f98, ef98⟩ : ∃ v, m96 69 4 = v := ⟨_, rfl⟩
                                    have bf98 := hIm96.fl (c := 69) (k := 4) rfl
                                    rw [ef98] at bf98
                                    rw [ef98] at po0_m96
                                    show zW E (d) 206 182 [(2, 69), (0, a0), (0, a1), (1, (0 + x44)), (9, 0), (1, (0 + x45)), (9, 0), (1, ((0 * x45) + (x80 * 1))), (9, 0), (1, (1 * x45)), (9, 0), (1, (0 + f79)), (9, 0), (0, ((((0 + 1) + 1) + 1) + 1)), (1, x83), (9, 0), (1, x84), (9, 0)] [] m96 Q
                                    skip
                                    refine zw_42 zr_206_182 ?_
                                    refine zw_push zr_206_196 ?_
                                    refine zw_R zr_206_197 (by decide) zm_206 (v := (0, 1)) rfl ?_
                                    rw [← hQ]; exact ⟨_, rfl, by omega, by omega, hIm96, hFm96, by omega, by first | exact Or.inr (Or.inr ⟨by decide, ef97, ef98⟩) | exact Or.inl ⟨rfl, by omega, by rw [ef97, ef98, show F70 (10 + 8 * a0 + 2 * 0).toNat + F70 (10 + 8 * a0 + 2 * (0 + 1)).toNat + F70 (10 + 8 * a0 + 2 * ((0 + 1) + 1)).toNat + F70 (10 + 8 * a0 + 2 * (((0 + 1) + 1) + 1)).toNat = (0 + x44) by omega, show F70 (10 + 8 * a0 + 2 * 0 + 1).toNat + F70 (10 + 8 * a0 + 2 * (0 + 1) + 1).toNat + F70 (10 + 8 * a0 + 2 * ((0 + 1) + 1) + 1).toNat + F70 (10 + 8 * a0 + 2 * (((0 + 1) + 1) + 1) + 1).toNat = (0 + x45) by omega]; exact po0_m96⟩ | exact Or.inr (Or.inl ⟨rfl, by omega, by rw [ef97, ef98]; exact hF⟩)⟩
                                · intro h101; omega
                              · intro h102; omega
                            · intro h103
                              refine zw_5 zr_206_93 rfl ?_
                              refine zw_6 zr_206_94 rfl ?_
                              refine zw_27 zr_206_96 (by omega) ?_
                              refine zw_13 (L' := [(2, 69), (0, a0), (0, a1), (1, ((0 + x44) + x83)), (9, 0), (1, (0 + x45)), (9, 0), (1, ((0 * x45) + (x80 * 1))), (9, 0), (1, (1 * x45)), (9, 0), (1, (0 + f79)), (9, 0), (0, (((0 + 1) + 1) + 1)), (1, x83), (9, 0), (1, x84), (9, 0)]) zr_206_97 (Nat.le_of_ble_eq_true rfl) rfl ?_
                              refine zw_6 zr_206_98 rfl ?_
                              refine zw_6 zr_206_100 rfl ?_
                              refine zw_27 zr_206_102 (by omega) ?_
                              refine zw_14 (L' := [(2, 69), (0, a0), (0, a1), (1, ((0 + x44) + x83)), (9, 0), (1, ((0 + x45) + x84)), (9, 0), (1, ((0 * x45) + (x80 * 1))), (9, 0), (1, (1 * x45)), (9, 0), (1, (0 + f79)), (9, 0), (0, (((0 + 1) + 1) + 1)), (1, x83), (9, 0), (1, x84), (9, 0)]) zr_206_103 (Nat.le_of_ble_eq_true rfl) rfl ?_
                              refine zw_6 zr_206_105 rfl ?_
                              refine zw_6 zr_206_107 rfl ?_
                              refine zw_29n (A := 891) (B := 99) zr_206_109 (by omega) (by omega) (by decide) ?_
                              intro x104 ex104 hx104a hx104b
                              skip
                              refine zw_7 zr_206_110 rfl ?_
                              refine zw_46r (s := 70) zr_206_111 rfl rfl rfl rfl ?_
                              refine zw_push zr_206_114 ?_
                              refine zw_4 zr_206_117 rfl ?_
                              refine zw_16 zr_206_119 (by omega) ?_
                              obtain ⟨f105, ef105⟩ : ∃ v, m0 70 821 = v := ⟨_, rfl⟩
                              have bf105 : 1 ≤ m0 70 821 ∧ m0 70 821 ≤ 9 := ib_70_weight hI0 (by omega)
                              rw [ef105] at bf105
                              refine zw_48k (c := 70) (len := 826) zr_206_120 rfl rfl (by omega) (by omega) (show ((818 + (((0 + 1) + 1) + 1)) : Int).toNat = 821 by omega) ef105 ?_
                              have qf105 : f105 = F70 ((818 + (((0 + 1) + 1) + 1)) : Int).toNat := by rw [show ((818 + (((0 + 1) + 1) + 1)) : Int).toNat = 821 by omega, ← hG70]; exact (ef105).symm
                              skip
                              refine zw_36 zr_206_121 ?_
                              refine zw_6 zr_206_122 rfl ?_
                              refine zw_29n (A := 9) (B := 99) zr_206_124 (by omega) (by omega) (by decide) ?_
                              intro x106 ex106 hx106a hx106b
                              skip
                              refine zw_6 zr_206_125 rfl ?_
                              refine zw_29n (A := 891) (B := 99) zr_206_127 (by omega) (by omega) (by decide) ?_
                              intro x107 ex107 hx107a hx107b
                              skip
                              refine zw_27 zr_206_128 (by omega) ?_
                              refine zw_14 (L' := [(2, 69), (0, a0), (0, a1), (1, ((0 + x44) + x83)), (9, 0), (1, ((0 + x45) + x84)), (9, 0), (1, (x104 + x107)), (9, 0), (1, (1 * x45)), (9, 0), (1, (0 + f79)), (9, 0), (0, (((0 + 1) + 1) + 1)), (1, x83), (9, 0), (1, x84), (9, 0)]) zr_206_129 (Nat.le_of_ble_eq_true rfl) rfl ?_
                              refine zw_6 zr_206_131 rfl ?_
                              refine zw_6 zr_206_133 rfl ?_
                              refine zw_29s (A := 99) (B := 99) zr_206_135 (by omega) (by omega) (by decide) ?_
                              intro x108 ex108 hx108a hx108b
                              skip
                              skip
                              refine zw_14 (L' := [(2, 69), (0, a0), (0, a1), (1, ((0 + x44) + x83)), (9, 0), (1, ((0 + x45) + x84)), (9, 0), (1, (x104 + x107)), (9, 0), (1, x108), (9, 0), (1, (0 + f79)), (9, 0), (0, (((0 + 1) + 1) + 1)), (1, x83), (9, 0), (1, x84), (9, 0)]) zr_206_136 (Nat.le_of_ble_eq_true rfl) rfl ?_
                              refine zw_6 zr_206_138 rfl ?_
                              refine zw_7 zr_206_140 rfl ?_
                              refine zw_46r (s := 70) zr_206_141 rfl rfl rfl rfl ?_
                              refine zw_push zr_206_144 ?_
                              refine zw_4 zr_206_147 rfl ?_
                              refine zw_16 zr_206_149 (by omega) ?_
                              refine zw_48k (c := 70) (len := 826) zr_206_150 rfl rfl (by omega) (by omega) (show ((818 + (((0 + 1) + 1) + 1)) : Int).toNat = 821 by omega) ef105 ?_
                              have qf105 : f105 = F70 ((818 + (((0 + 1) + 1) + 1)) : Int).toNat := by rw [show ((818 + (((0 + 1) + 1) + 1)) : Int).toNat = 821 by omega, ← hG70]; exact (ef105).symm
                              refine zw_36 zr_206_151 ?_
                              refine zw_27 zr_206_152 (by omega) ?_
                              refine zw_14 (L' := [(2, 69), (0, a0), (0, a1), (1, ((0 + x44) + x83)), (9, 0), (1, ((0 + x45) + x84)), (9, 0), (1, (x104 + x107)), (9, 0), (1, x108), (9, 0), (1, ((0 + f79) + f105)), (9, 0), (0, (((0 + 1) + 1) + 1)), (1, x83), (9, 0), (1, x84), (9, 0)]) zr_206_153 (Nat.le_of_ble_eq_true rfl) rfl ?_
                              have hP4 := prs_r (R := (fun c => F70 (10 + 8 * a0.toNat + 2 * c))) (A := (fun c => F70 (11 + 8 * a0.toNat + 2 * c))) (W := (fun c => F70 (818 + c))) (k := 4) hP3 rfl (qx83.trans (congrArg F70 (by omega))) (qx84.trans (congrArg F70 (by omega))) (qf105.trans (congrArg F70 (by omega))) (by omega) ex104 ex106 ex107 ex108 ⟨rfl, rfl⟩
                              refine zw_15 (c := 1) (L' := [(2, 69), (0, a0), (0, a1), (1, ((0 + x44) + x83)), (9, 0), (1, ((0 + x45) + x84)), (9, 0), (1, (x104 + x107)), (9, 0), (1, x108), (9, 0), (1, ((0 + f79) + f105)), (9, 0), (0, ((((0 + 1) + 1) + 1) + 1)), (1, x83), (9, 0), (1, x84), (9, 0)]) zr_206_155 rfl (by decide) (by omega) rfl ?_
                              refine zw_42 zr_206_158 ?_
                              skip
                              refine zw_4 zr_206_38 rfl ?_
                              refine zw_push zr_206_40 ?_
                              refine zw_41_3 zr_206_41 ?_ ?_
                              · intro h109
                                refine zw_6 zr_206_161 rfl ?_
                                refine zw_push zr_206_163 ?_
                                refine zw_39_4 zr_206_164 zr_206_165 ?_ ?_
                                · intro h110
                                  refine zw_3 zr_206_171 rfl ?_
                                  refine zw_40_4 zr_206_172 ?_ ?_
                                  · intro h111
                                    refine zw_7 zr_206_185 rfl ?_
                                    refine zw_6 zr_206_186 rfl ?_
                                    refine zw_6 zr_206_188 rfl ?_
                                    refine zw_6 zr_206_190 rfl ?_
                                    refine zw_29s (A := 9801) (B := 18) zr_206_192 (by omega) (by omega) (by decide) ?_
                                    intro x112 ex112 hx112a hx112b
                                    skip
                                    refine zw_C zr_206_193 (Or.inl rfl) zm_173 rfl rfl ⟨Nat.le_of_ble_eq_true rfl, Nat.le_of_ble_eq_true rfl, Nat.le_of_ble_eq_true rfl, rfl, by decide⟩ (by omega) (th_173 (d := d - 1) (by omega) hI0 (a0 := (x104 + x107)) (a1 := x112)      (by omega) (by omega) ) ?_
                                    rintro _ m113 ⟨rfl, hIm113, gm113, po0_m113⟩
                                    have hFm113 : zFr W_206 m0 m113 := hF0.trans gm113 rfl
                                    have km113_70_822 : m113 70 822 = g0 := (gm113 70 822 rfl).trans hg0
                                    have km113_70_820 : m113 70 820 = f79 := (gm113 70 820 rfl).trans ef79
                                    have km113_70_821 : m113 70 821 = f105 := (gm113 70 821 rfl).trans ef105
                                    have fm113_70 : m113 70 = F70 := (funext fun k => gm113 70 k rfl).trans hG70
                                    obtain ⟨f114, ef114⟩ : ∃ v, m113 69 3 = v := ⟨_, rfl⟩
                                    have bf114 := hIm113.fl (c := 69) (k := 3) rfl
                                    rw [ef114] at bf114
                                    rw [ef114] at po0_m113
                                    obtain ⟨f115, ef115⟩ : ∃ v, m113 69 4 = v := ⟨_, rfl⟩
                                    have bf115 := hIm113.fl (c := 69) (k := 4) rfl
                                    rw [ef115] at bf115
                                    rw [ef115] at po0_m113
                                    show zW E (d) 206 196 [(2, 69), (0, a0), (0, a1), (1, ((0 + x44) + x83)), (9, 0), (1, ((0 + x45) + x84)), (9, 0), (1, (x104 + x107)), (9, 0), (1, x108), (9, 0), (1, ((0 + f79) + f105)), (9, 0), (0, ((((0 + 1) + 1) + 1) + 1)), (1, x83), (9, 0), (1, x84), (9, 0)] [] m113 Q
                                    have hF := prs_t hP4 ex112 po0_m113
                                    refine zw_push zr_206_196 ?_
                                    refine zw_R zr_206_197 (by decide) zm_206 (v := (0, 1)) rfl ?_
                                    rw [← hQ]; exact ⟨_, rfl, by omega, by omega, hIm113, hFm113, by omega, by first | exact Or.inr (Or.inr ⟨by decide, ef114, ef115⟩) | exact Or.inl ⟨rfl, by omega, by rw [ef114, ef115, show F70 (10 + 8 * a0 + 2 * 0).toNat + F70 (10 + 8 * a0 + 2 * (0 + 1)).toNat + F70 (10 + 8 * a0 + 2 * ((0 + 1) + 1)).toNat + F70 (10 + 8 * a0 + 2 * (((0 + 1) + 1) + 1)).toNat = ((0 + x44) + x83) by omega, show F70 (10 + 8 * a0 + 2 * 0 + 1).toNat + F70 (10 + 8 * a0 + 2 * (0 + 1) + 1).toNat + F70 (10 + 8 * a0 + 2 * ((0 + 1) + 1) + 1).toNat + F70 (10 + 8 * a0 + 2 * (((0 + 1) + 1) + 1) + 1).toNat = ((0 + x45) + x84) by omega]; exact po0_m113⟩ | exact Or.inr (Or.inl ⟨rfl, by omega, by rw [ef114, ef115]; exact hF⟩)⟩
                                  · intro h118
                                    refine zw_7 zr_206_175 rfl ?_
                                    refine zw_5 zr_206_176 rfl ?_
                                    refine zw_6 zr_206_177 rfl ?_
                                    refine zw_C zr_206_179 (Or.inl rfl) zm_173 rfl rfl ⟨Nat.le_of_ble_eq_true rfl, Nat.le_of_ble_eq_true rfl, Nat.le_of_ble_eq_true rfl, rfl, by decide⟩ (by omega) (th_173 (d := d - 1) (by omega) hI0 (a0 := ((0 + x44) + x83)) (a1 := ((0 + x45) + x84))      (by omega) (by omega) ) ?_
                                    rintro _ m119 ⟨rfl, hIm119, gm119, po0_m119⟩
                                    have hFm119 : zFr W_206 m0 m119 := hF0.trans gm119 rfl
                                    have km119_70_822 : m119 70 822 = g0 := (gm119 70 822 rfl).trans hg0
                                    have km119_70_820 : m119 70 820 = f79 := (gm119 70 820 rfl).trans ef79
                                    have km119_70_821 : m119 70 821 = f105 := (gm119 70 821 rfl).trans ef105
                                    have fm119_70 : m119 70 = F70 := (funext fun k => gm119 70 k rfl).trans hG70
                                    obtain ⟨f120, ef120⟩ : ∃ v, m119 69 3 = v := ⟨_, rfl⟩
                                    have bf120 := hIm119.fl (c := 69) (k := 3) rfl
                                    rw [ef120] at bf120
                                    rw [ef120] at po0_m119
                                    obtain ⟨f121, ef121⟩ : ∃ v, m119 69 4 = v := ⟨_, rfl⟩
                                    have bf121 := hIm119.fl (c := 69) (k := 4) rfl
                                    rw [ef121] at bf121
                                    rw [ef121] at po0_m119
                                    show zW E (d) 206 182 [(2, 69), (0, a0), (0, a1), (1, ((0 + x44) + x83)), (9, 0), (1, ((0 + x45) + x84)), (9, 0), (1, (x104 + x107)), (9, 0), (1, x108), (9, 0), (1, ((0 + f79) + f105)), (9, 0), (0, ((((0 + 1) + 1) + 1) + 1)), (1, x83), (9, 0), (1, x84), (9, 0)] [] m119 Q
                                    skip
                                    refine zw_42 zr_206_182 ?_
                                    refine zw_push zr_206_196 ?_
                                    refine zw_R zr_206_197 (by decide) zm_206 (v := (0, 1)) rfl ?_
                                    rw [← hQ]; exact ⟨_, rfl, by omega, by omega, hIm119, hFm119, by omega, by first | exact Or.inr (Or.inr ⟨by decide, ef120, ef121⟩) | exact Or.inl ⟨rfl, by omega, by rw [ef120, ef121, show F70 (10 + 8 * a0 + 2 * 0).toNat + F70 (10 + 8 * a0 + 2 * (0 + 1)).toNat + F70 (10 + 8 * a0 + 2 * ((0 + 1) + 1)).toNat + F70 (10 + 8 * a0 + 2 * (((0 + 1) + 1) + 1)).toNat = ((0 + x44) + x83) by omega, show F70 (10 + 8 * a0 + 2 * 0 + 1).toNat + F70 (10 + 8 * a0 + 2 * (0 + 1) + 1).toNat + F70 (10 + 8 * a0 + 2 * ((0 + 1) + 1) + 1).toNat + F70 (10 + 8 * a0 + 2 * (((0 + 1) + 1) + 1) + 1).toNat = ((0 + x45) + x84) by omega]; exact po0_m119⟩ | exact Or.inr (Or.inl ⟨rfl, by omega, by rw [ef120, ef121]; exact hF⟩)⟩
                                · intro h124; omega
                              · intro h125; omega
                    · intro h126
                      refine zw_5 zr_206_93 rfl ?_
                      refine zw_6 zr_206_94 rfl ?_
                      refine zw_27 zr_206_96 (by omega) ?_
                      refine zw_13 (L' := [(2, 69), (0, a0), (0, a1), (1, (0 + x39)), (9, 0), (1, 0), (9, 0), (1, 0), (9, 0), (1, 1), (9, 0), (1, 0), (9, 0), (0, (0 + 1)), (1, x39), (9, 0), (1, x40), (9, 0)]) zr_206_97 (Nat.le_of_ble_eq_true rfl) rfl ?_
                      refine zw_6 zr_206_98 rfl ?_
                      refine zw_6 zr_206_100 rfl ?_
                      refine zw_27 zr_206_102 (by omega) ?_
                      refine zw_14 (L' := [(2, 69), (0, a0), (0, a1), (1, (0 + x39)), (9, 0), (1, (0 + x40)), (9, 0), (1, 0), (9, 0), (1, 1), (9, 0), (1, 0), (9, 0), (0, (0 + 1)), (1, x39), (9, 0), (1, x40), (9, 0)]) zr_206_103 (Nat.le_of_ble_eq_true rfl) rfl ?_
                      refine zw_6 zr_206_105 rfl ?_
                      refine zw_6 zr_206_107 rfl ?_
                      refine zw_29 zr_206_109 (by omega) ?_
                      skip
                      refine zw_7 zr_206_110 rfl ?_
                      refine zw_46r (s := 70) zr_206_111 rfl rfl rfl rfl ?_
                      refine zw_push zr_206_114 ?_
                      refine zw_4 zr_206_117 rfl ?_
                      refine zw_16 zr_206_119 (by omega) ?_
                      obtain ⟨f127, ef127⟩ : ∃ v, m0 70 819 = v := ⟨_, rfl⟩
                      have bf127 : 1 ≤ m0 70 819 ∧ m0 70 819 ≤ 9 := ib_70_weight hI0 (by omega)
                      rw [ef127] at bf127
                      refine zw_48k (c := 70) (len := 826) zr_206_120 rfl rfl (by omega) (by omega) (show ((818 + (0 + 1)) : Int).toNat = 819 by omega) ef127 ?_
                      have qf127 : f127 = F70 ((818 + (0 + 1)) : Int).toNat := by rw [show ((818 + (0 + 1)) : Int).toNat = 819 by omega, ← hG70]; exact (ef127).symm
                      skip
                      refine zw_36 zr_206_121 ?_
                      refine zw_6 zr_206_122 rfl ?_
                      refine zw_29n (A := 9) (B := 99) zr_206_124 (by omega) (by omega) (by decide) ?_
                      intro x128 ex128 hx128a hx128b
                      skip
                      refine zw_6 zr_206_125 rfl ?_
                      refine zw_29 zr_206_127 (by omega) ?_
                      skip
                      refine zw_27 zr_206_128 (by omega) ?_
                      refine zw_14 (L' := [(2, 69), (0, a0), (0, a1), (1, (0 + x39)), (9, 0), (1, (0 + x40)), (9, 0), (1, ((0 * x40) + (x128 * 1))), (9, 0), (1, 1), (9, 0), (1, 0), (9, 0), (0, (0 + 1)), (1, x39), (9, 0), (1, x40), (9, 0)]) zr_206_129 (Nat.le_of_ble_eq_true rfl) rfl ?_
                      refine zw_6 zr_206_131 rfl ?_
                      refine zw_6 zr_206_133 rfl ?_
                      refine zw_29 zr_206_135 (by omega) ?_
                      skip
                      skip
                      refine zw_14 (L' := [(2, 69), (0, a0), (0, a1), (1, (0 + x39)), (9, 0), (1, (0 + x40)), (9, 0), (1, ((0 * x40) + (x128 * 1))), (9, 0), (1, (1 * x40)), (9, 0), (1, 0), (9, 0), (0, (0 + 1)), (1, x39), (9, 0), (1, x40), (9, 0)]) zr_206_136 (Nat.le_of_ble_eq_true rfl) rfl ?_
                      refine zw_6 zr_206_138 rfl ?_
                      refine zw_7 zr_206_140 rfl ?_
                      refine zw_46r (s := 70) zr_206_141 rfl rfl rfl rfl ?_
                      refine zw_push zr_206_144 ?_
                      refine zw_4 zr_206_147 rfl ?_
                      refine zw_16 zr_206_149 (by omega) ?_
                      refine zw_48k (c := 70) (len := 826) zr_206_150 rfl rfl (by omega) (by omega) (show ((818 + (0 + 1)) : Int).toNat = 819 by omega) ef127 ?_
                      have qf127 : f127 = F70 ((818 + (0 + 1)) : Int).toNat := by rw [show ((818 + (0 + 1)) : Int).toNat = 819 by omega, ← hG70]; exact (ef127).symm
                      refine zw_36 zr_206_151 ?_
                      refine zw_27 zr_206_152 (by omega) ?_
                      refine zw_14 (L' := [(2, 69), (0, a0), (0, a1), (1, (0 + x39)), (9, 0), (1, (0 + x40)), (9, 0), (1, ((0 * x40) + (x128 * 1))), (9, 0), (1, (1 * x40)), (9, 0), (1, (0 + f127)), (9, 0), (0, (0 + 1)), (1, x39), (9, 0), (1, x40), (9, 0)]) zr_206_153 (Nat.le_of_ble_eq_true rfl) rfl ?_
                      have hP2 := prs_r (R := (fun c => F70 (10 + 8 * a0.toNat + 2 * c))) (A := (fun c => F70 (11 + 8 * a0.toNat + 2 * c))) (W := (fun c => F70 (818 + c))) (k := 2) hP1 rfl (qx39.trans (congrArg F70 (by omega))) (qx40.trans (congrArg F70 (by omega))) (qf127.trans (congrArg F70 (by omega))) (by omega) rfl ex128 rfl rfl ⟨rfl, rfl⟩
                      refine zw_15 (c := 1) (L' := [(2, 69), (0, a0), (0, a1), (1, (0 + x39)), (9, 0), (1, (0 + x40)), (9, 0), (1, ((0 * x40) + (x128 * 1))), (9, 0), (1, (1 * x40)), (9, 0), (1, (0 + f127)), (9, 0), (0, ((0 + 1) + 1)), (1, x39), (9, 0), (1, x40), (9, 0)]) zr_206_155 rfl (by decide) (by omega) rfl ?_
                      refine zw_42 zr_206_158 ?_
                      skip
                      refine zw_4 zr_206_38 rfl ?_
                      refine zw_push zr_206_40 ?_
                      refine zw_41_3 zr_206_41 ?_ ?_
                      · intro h129; omega
                      · intro h130
                        refine zw_7 zr_206_44 rfl ?_
                        refine zw_46r (s := 70) zr_206_45 rfl rfl rfl rfl ?_
                        refine zw_push zr_206_48 ?_
                        refine zw_push zr_206_50 ?_
                        refine zw_3 zr_206_52 rfl ?_
                        refine zw_18 zr_206_53 (by omega) ?_
                        refine zw_16 zr_206_54 (by omega) ?_
                        refine zw_push zr_206_55 ?_
                        refine zw_4 zr_206_56 rfl ?_
                        refine zw_18 zr_206_58 (by omega) ?_
                        refine zw_16 zr_206_59 (by omega) ?_
                        refine zw_48 (c := 70) (len := 826) zr_206_60 rfl rfl (by omega) (by omega) ?_
                        intro x131 ex131
                        have bx131 := ib_70_moves hI0 (k := (((10 + (8 * a0)) + (2 * ((0 + 1) + 1)))).toNat) (by omega)
                        rw [← ex131] at bx131
                        have qx131 : x131 = F70 (((10 + (8 * a0)) + (2 * ((0 + 1) + 1)))).toNat := by rw [← hG70]; exact ex131
                        clear ex131
                        skip
                        refine zw_36 zr_206_61 ?_
                        refine zw_14 (L' := [(2, 69), (0, a0), (0, a1), (1, (0 + x39)), (9, 0), (1, (0 + x40)), (9, 0), (1, ((0 * x40) + (x128 * 1))), (9, 0), (1, (1 * x40)), (9, 0), (1, (0 + f127)), (9, 0), (0, ((0 + 1) + 1)), (1, x131), (9, 0), (1, x40), (9, 0)]) zr_206_62 (Nat.le_of_ble_eq_true rfl) rfl ?_
                        refine zw_7 zr_206_64 rfl ?_
                        refine zw_46r (s := 70) zr_206_65 rfl rfl rfl rfl ?_
                        refine zw_push zr_206_68 ?_
                        refine zw_push zr_206_70 ?_
                        refine zw_3 zr_206_72 rfl ?_
                        refine zw_18 zr_206_73 (by omega) ?_
                        refine zw_16 zr_206_74 (by omega) ?_
                        refine zw_push zr_206_75 ?_
                        refine zw_4 zr_206_76 rfl ?_
                        refine zw_18 zr_206_78 (by omega) ?_
                        refine zw_16 zr_206_79 (by omega) ?_
                        refine zw_push zr_206_80 ?_
                        refine zw_16 zr_206_81 (by omega) ?_
                        refine zw_48 (c := 70) (len := 826) zr_206_82 rfl rfl (by omega) (by omega) ?_
                        intro x132 ex132
                        have bx132 := ib_70_moves hI0 (k := ((((10 + (8 * a0)) + (2 * ((0 + 1) + 1))) + 1)).toNat) (by omega)
                        rw [← ex132] at bx132
                        have qx132 : x132 = F70 ((((10 + (8 * a0)) + (2 * ((0 + 1) + 1))) + 1)).toNat := by rw [← hG70]; exact ex132
                        clear ex132
                        skip
                        skip
                        refine zw_36 zr_206_83 ?_
                        refine zw_14 (L' := [(2, 69), (0, a0), (0, a1), (1, (0 + x39)), (9, 0), (1, (0 + x40)), (9, 0), (1, ((0 * x40) + (x128 * 1))), (9, 0), (1, (1 * x40)), (9, 0), (1, (0 + f127)), (9, 0), (0, ((0 + 1) + 1)), (1, x131), (9, 0), (1, x132), (9, 0)]) zr_206_84 (Nat.le_of_ble_eq_true rfl) rfl ?_
                        refine zw_6 zr_206_86 rfl ?_
                        refine zw_push zr_206_88 ?_
                        refine zw_39_5 zr_206_89 zr_206_90 ?_ ?_
                        · intro h133
                          have hP3 := prs_n (R := (fun c => F70 (10 + 8 * a0.toNat + 2 * c))) (A := (fun c => F70 (11 + 8 * a0.toNat + 2 * c))) (W := (fun c => F70 (818 + c))) (k := 3) hP2 rfl (qx132.trans (congrArg F70 (by omega))) (by omega)
                          refine zw_15 (c := 1) (L' := [(2, 69), (0, a0), (0, a1), (1, (0 + x39)), (9, 0), (1, (0 + x40)), (9, 0), (1, ((0 * x40) + (x128 * 1))), (9, 0), (1, (1 * x40)), (9, 0), (1, (0 + f127)), (9, 0), (0, (((0 + 1) + 1) + 1)), (1, x131), (9, 0), (1, x132), (9, 0)]) zr_206_155 rfl (by decide) (by omega) rfl ?_
                          refine zw_42 zr_206_158 ?_
                          skip
                          refine zw_4 zr_206_38 rfl ?_
                          refine zw_push zr_206_40 ?_
                          refine zw_41_3 zr_206_41 ?_ ?_
                          · intro h134; omega
                          · intro h135
                            refine zw_7 zr_206_44 rfl ?_
                            refine zw_46r (s := 70) zr_206_45 rfl rfl rfl rfl ?_
                            refine zw_push zr_206_48 ?_
                            refine zw_push zr_206_50 ?_
                            refine zw_3 zr_206_52 rfl ?_
                            refine zw_18 zr_206_53 (by omega) ?_
                            refine zw_16 zr_206_54 (by omega) ?_
                            refine zw_push zr_206_55 ?_
                            refine zw_4 zr_206_56 rfl ?_
                            refine zw_18 zr_206_58 (by omega) ?_
                            refine zw_16 zr_206_59 (by omega) ?_
                            refine zw_48 (c := 70) (len := 826) zr_206_60 rfl rfl (by omega) (by omega) ?_
                            intro x136 ex136
                            have bx136 := ib_70_moves hI0 (k := (((10 + (8 * a0)) + (2 * (((0 + 1) + 1) + 1)))).toNat) (by omega)
                            rw [← ex136] at bx136
                            have qx136 : x136 = F70 (((10 + (8 * a0)) + (2 * (((0 + 1) + 1) + 1)))).toNat := by rw [← hG70]; exact ex136
                            clear ex136
                            skip
                            refine zw_36 zr_206_61 ?_
                            refine zw_14 (L' := [(2, 69), (0, a0), (0, a1), (1, (0 + x39)), (9, 0), (1, (0 + x40)), (9, 0), (1, ((0 * x40) + (x128 * 1))), (9, 0), (1, (1 * x40)), (9, 0), (1, (0 + f127)), (9, 0), (0, (((0 + 1) + 1) + 1)), (1, x136), (9, 0), (1, x132), (9, 0)]) zr_206_62 (Nat.le_of_ble_eq_true rfl) rfl ?_
                            refine zw_7 zr_206_64 rfl ?_
                            refine zw_46r (s := 70) zr_206_65 rfl rfl rfl rfl ?_
                            refine zw_push zr_206_68 ?_
                            refine zw_push zr_206_70 ?_
                            refine zw_3 zr_206_72 rfl ?_
                            refine zw_18 zr_206_73 (by omega) ?_
                            refine zw_16 zr_206_74 (by omega) ?_
                            refine zw_push zr_206_75 ?_
                            refine zw_4 zr_206_76 rfl ?_
                            refine zw_18 zr_206_78 (by omega) ?_
                            refine zw_16 zr_206_79 (by omega) ?_
                            refine zw_push zr_206_80 ?_
                            refine zw_16 zr_206_81 (by omega) ?_
                            refine zw_48 (c := 70) (len := 826) zr_206_82 rfl rfl (by omega) (by omega) ?_
                            intro x137 ex137
                            have bx137 := ib_70_moves hI0 (k := ((((10 + (8 * a0)) + (2 * (((0 + 1) + 1) + 1))) + 1)).toNat) (by omega)
                            rw [← ex137] at bx137
                            have qx137 : x137 = F70 ((((10 + (8 * a0)) + (2 * (((0 + 1) + 1) + 1))) + 1)).toNat := by rw [← hG70]; exact ex137
                            clear ex137
                            skip
                            skip
                            refine zw_36 zr_206_83 ?_
                            refine zw_14 (L' := [(2, 69), (0, a0), (0, a1), (1, (0 + x39)), (9, 0), (1, (0 + x40)), (9, 0), (1, ((0 * x40) + (x128 * 1))), (9, 0), (1, (1 * x40)), (9, 0), (1, (0 + f127)), (9, 0), (0, (((0 + 1) + 1) + 1)), (1, x136), (9, 0), (1, x137), (9, 0)]) zr_206_84 (Nat.le_of_ble_eq_true rfl) rfl ?_
                            refine zw_6 zr_206_86 rfl ?_
                            refine zw_push zr_206_88 ?_
                            refine zw_39_5 zr_206_89 zr_206_90 ?_ ?_
                            · intro h138
                              have hP4 := prs_n (R := (fun c => F70 (10 + 8 * a0.toNat + 2 * c))) (A := (fun c => F70 (11 + 8 * a0.toNat + 2 * c))) (W := (fun c => F70 (818 + c))) (k := 4) hP3 rfl (qx137.trans (congrArg F70 (by omega))) (by omega)
                              refine zw_15 (c := 1) (L' := [(2, 69), (0, a0), (0, a1), (1, (0 + x39)), (9, 0), (1, (0 + x40)), (9, 0), (1, ((0 * x40) + (x128 * 1))), (9, 0), (1, (1 * x40)), (9, 0), (1, (0 + f127)), (9, 0), (0, ((((0 + 1) + 1) + 1) + 1)), (1, x136), (9, 0), (1, x137), (9, 0)]) zr_206_155 rfl (by decide) (by omega) rfl ?_
                              refine zw_42 zr_206_158 ?_
                              skip
                              refine zw_4 zr_206_38 rfl ?_
                              refine zw_push zr_206_40 ?_
                              refine zw_41_3 zr_206_41 ?_ ?_
                              · intro h139
                                refine zw_6 zr_206_161 rfl ?_
                                refine zw_push zr_206_163 ?_
                                refine zw_39_4 zr_206_164 zr_206_165 ?_ ?_
                                · intro h140
                                  refine zw_3 zr_206_171 rfl ?_
                                  refine zw_40_4 zr_206_172 ?_ ?_
                                  · intro h141
                                    refine zw_7 zr_206_185 rfl ?_
                                    refine zw_6 zr_206_186 rfl ?_
                                    refine zw_6 zr_206_188 rfl ?_
                                    refine zw_6 zr_206_190 rfl ?_
                                    refine zw_29s (A := 99) (B := 9) zr_206_192 (by omega) (by omega) (by decide) ?_
                                    intro x142 ex142 hx142a hx142b
                                    skip
                                    refine zw_C zr_206_193 (Or.inl rfl) zm_173 rfl rfl ⟨Nat.le_of_ble_eq_true rfl, Nat.le_of_ble_eq_true rfl, Nat.le_of_ble_eq_true rfl, rfl, by decide⟩ (by omega) (th_173 (d := d - 1) (by omega) hI0 (a0 := ((0 * x40) + (x128 * 1))) (a1 := x142)      (by omega) (by omega) ) ?_
                                    rintro _ m143 ⟨rfl, hIm143, gm143, po0_m143⟩
                                    have hFm143 : zFr W_206 m0 m143 := hF0.trans gm143 rfl
                                    have km143_70_822 : m143 70 822 = g0 := (gm143 70 822 rfl).trans hg0
                                    have km143_70_819 : m143 70 819 = f127 := (gm143 70 819 rfl).trans ef127
                                    have fm143_70 : m143 70 = F70 := (funext fun k => gm143 70 k rfl).trans hG70
                                    obtain ⟨f144, ef144⟩ : ∃ v, m143 69 3 = v := ⟨_, rfl⟩
                                    have bf144 := hIm143.fl (c := 69) (k := 3) rfl
                                    rw [ef144] at bf144
                                    rw [ef144] at po0_m143
                                    obtain ⟨f145, ef145⟩ : ∃ v, m143 69 4 = v := ⟨_, rfl⟩
                                    have bf145 := hIm143.fl (c := 69) (k := 4) rfl
                                    rw [ef145] at bf145
                                    rw [ef145] at po0_m143
                                    show zW E (d) 206 196 [(2, 69), (0, a0), (0, a1), (1, (0 + x39)), (9, 0), (1, (0 + x40)), (9, 0), (1, ((0 * x40) + (x128 * 1))), (9, 0), (1, (1 * x40)), (9, 0), (1, (0 + f127)), (9, 0), (0, ((((0 + 1) + 1) + 1) + 1)), (1, x136), (9, 0), (1, x137), (9, 0)] [] m143 Q
                                    have hF := prs_t hP4 ex142 po0_m143
                                    refine zw_push zr_206_196 ?_
                                    refine zw_R zr_206_197 (by decide) zm_206 (v := (0, 1)) rfl ?_
                                    rw [← hQ]; exact ⟨_, rfl, by omega, by omega, hIm143, hFm143, by omega, by first | exact Or.inr (Or.inr ⟨by decide, ef144, ef145⟩) | exact Or.inl ⟨rfl, by omega, by rw [ef144, ef145, show F70 (10 + 8 * a0 + 2 * 0).toNat + F70 (10 + 8 * a0 + 2 * (0 + 1)).toNat + F70 (10 + 8 * a0 + 2 * ((0 + 1) + 1)).toNat + F70 (10 + 8 * a0 + 2 * (((0 + 1) + 1) + 1)).toNat = (0 + x39) by omega, show F70 (10 + 8 * a0 + 2 * 0 + 1).toNat + F70 (10 + 8 * a0 + 2 * (0 + 1) + 1).toNat + F70 (10 + 8 * a0 + 2 * ((0 + 1) + 1) + 1).toNat + F70 (10 + 8 * a0 + 2 * (((0 + 1) + 1) + 1) + 1).toNat = (0 + x40) by omega]; exact po0_m143⟩ | exact Or.inr (Or.inl ⟨rfl, by omega, by rw [ef144, ef145]; exact hF⟩)⟩
                                  · intro h148
                                    refine zw_7 zr_206_175 rfl ?_
                                    refine zw_5 zr_206_176 rfl ?_
                                    refine zw_6 zr_206_177 rfl ?_
                                    refine zw_C zr_206_179 (Or.inl rfl) zm_173 rfl rfl ⟨Nat.le_of_ble_eq_true rfl, Nat.le_of_ble_eq_true rfl, Nat.le_of_ble_eq_true rfl, rfl, by decide⟩ (by omega) (th_173 (d := d - 1) (by omega) hI0 (a0 := (0 + x39)) (a1 := (0 + x40))      (by omega) (by omega) ) ?_
                                    rintro _ m149 ⟨rfl, hIm149, gm149, po0_m149⟩
                                    have hFm149 : zFr W_206 m0 m149 := hF0.trans gm149 rfl
                                    have km149_70_822 : m149 70 822 = g0 := (gm149 70 822 rfl).trans hg0
                                    have km149_70_819 : m149 70 819 = f127 := (gm149 70 819 rfl).trans ef127
                                    have fm149_70 : m149 70 = F70 := (funext fun k => gm149 70 k rfl).trans hG70
                                    obtain ⟨f150, ef150⟩ : ∃ v, m149 69 3 = v := ⟨_, rfl⟩
                                    have bf150 := hIm149.fl (c := 69) (k := 3) rfl
                                    rw [ef150] at bf150
                                    rw [ef150] at po0_m149
                                    obtain ⟨f151, ef151⟩ : ∃ v, m149 69 4 = v := ⟨_, rfl⟩
                                    have bf151 := hIm149.fl (c := 69) (k := 4) rfl
                                    rw [ef151] at bf151
                                    rw [ef151] at po0_m149
                                    show zW E (d) 206 182 [(2, 69), (0, a0), (0, a1), (1, (0 + x39)), (9, 0), (1, (0 + x40)), (9, 0), (1, ((0 * x40) + (x128 * 1))), (9, 0), (1, (1 * x40)), (9, 0), (1, (0 + f127)), (9, 0), (0, ((((0 + 1) + 1) + 1) + 1)), (1, x136), (9, 0), (1, x137), (9, 0)] [] m149 Q
                                    skip
                                    refine zw_42 zr_206_182 ?_
                                    refine zw_push zr_206_196 ?_
                                    refine zw_R zr_206_197 (by decide) zm_206 (v := (0, 1)) rfl ?_
                                    rw [← hQ]; exact ⟨_, rfl, by omega, by omega, hIm149, hFm149, by omega, by first | exact Or.inr (Or.inr ⟨by decide, ef150, ef151⟩) | exact Or.inl ⟨rfl, by omega, by rw [ef150, ef151, show F70 (10 + 8 * a0 + 2 * 0).toNat + F70 (10 + 8 * a0 + 2 * (0 + 1)).toNat + F70 (10 + 8 * a0 + 2 * ((0 + 1) + 1)).toNat + F70 (10 + 8 * a0 + 2 * (((0 + 1) + 1) + 1)).toNat = (0 + x39) by omega, show F70 (10 + 8 * a0 + 2 * 0 + 1).toNat + F70 (10 + 8 * a0 + 2 * (0 + 1) + 1).toNat + F70 (10 + 8 * a0 + 2 * ((0 + 1) + 1) + 1).toNat + F70 (10 + 8 * a0 + 2 * (((0 + 1) + 1) + 1) + 1).toNat = (0 + x40) by omega]; exact po0_m149⟩ | exact Or.inr (Or.inl ⟨rfl, by omega, by rw [ef150, ef151]; exact hF⟩)⟩
                                · intro h154; omega
                              · intro h155; omega
                            · intro h156
                              refine zw_5 zr_206_93 rfl ?_
                              refine zw_6 zr_206_94 rfl ?_
                              refine zw_27 zr_206_96 (by omega) ?_
                              refine zw_13 (L' := [(2, 69), (0, a0), (0, a1), (1, ((0 + x39) + x136)), (9, 0), (1, (0 + x40)), (9, 0), (1, ((0 * x40) + (x128 * 1))), (9, 0), (1, (1 * x40)), (9, 0), (1, (0 + f127)), (9, 0), (0, (((0 + 1) + 1) + 1)), (1, x136), (9, 0), (1, x137), (9, 0)]) zr_206_97 (Nat.le_of_ble_eq_true rfl) rfl ?_
                              refine zw_6 zr_206_98 rfl ?_
                              refine zw_6 zr_206_100 rfl ?_
                              refine zw_27 zr_206_102 (by omega) ?_
                              refine zw_14 (L' := [(2, 69), (0, a0), (0, a1), (1, ((0 + x39) + x136)), (9, 0), (1, ((0 + x40) + x137)), (9, 0), (1, ((0 * x40) + (x128 * 1))), (9, 0), (1, (1 * x40)), (9, 0), (1, (0 + f127)), (9, 0), (0, (((0 + 1) + 1) + 1)), (1, x136), (9, 0), (1, x137), (9, 0)]) zr_206_103 (Nat.le_of_ble_eq_true rfl) rfl ?_
                              refine zw_6 zr_206_105 rfl ?_
                              refine zw_6 zr_206_107 rfl ?_
                              refine zw_29n (A := 891) (B := 99) zr_206_109 (by omega) (by omega) (by decide) ?_
                              intro x157 ex157 hx157a hx157b
                              skip
                              refine zw_7 zr_206_110 rfl ?_
                              refine zw_46r (s := 70) zr_206_111 rfl rfl rfl rfl ?_
                              refine zw_push zr_206_114 ?_
                              refine zw_4 zr_206_117 rfl ?_
                              refine zw_16 zr_206_119 (by omega) ?_
                              obtain ⟨f158, ef158⟩ : ∃ v, m0 70 821 = v := ⟨_, rfl⟩
                              have bf158 : 1 ≤ m0 70 821 ∧ m0 70 821 ≤ 9 := ib_70_weight hI0 (by omega)
                              rw [ef158] at bf158
                              refine zw_48k (c := 70) (len := 826) zr_206_120 rfl rfl (by omega) (by omega) (show ((818 + (((0 + 1) + 1) + 1)) : Int).toNat = 821 by omega) ef158 ?_
                              have qf158 : f158 = F70 ((818 + (((0 + 1) + 1) + 1)) : Int).toNat := by rw [show ((818 + (((0 + 1) + 1) + 1)) : Int).toNat = 821 by omega, ← hG70]; exact (ef158).symm
                              skip
                              refine zw_36 zr_206_121 ?_
                              refine zw_6 zr_206_122 rfl ?_
                              refine zw_29n (A := 9) (B := 99) zr_206_124 (by omega) (by omega) (by decide) ?_
                              intro x159 ex159 hx159a hx159b
                              skip
                              refine zw_6 zr_206_125 rfl ?_
                              refine zw_29n (A := 891) (B := 99) zr_206_127 (by omega) (by omega) (by decide) ?_
                              intro x160 ex160 hx160a hx160b
                              skip
                              refine zw_27 zr_206_128 (by omega) ?_
                              refine zw_14 (L' := [(2, 69), (0, a0), (0, a1), (1, ((0 + x39) + x136)), (9, 0), (1, ((0 + x40) + x137)), (9, 0), (1, (x157 + x160)), (9, 0), (1, (1 * x40)), (9, 0), (1, (0 + f127)), (9, 0), (0, (((0 + 1) + 1) + 1)), (1, x136), (9, 0), (1, x137), (9, 0)]) zr_206_129 (Nat.le_of_ble_eq_true rfl) rfl ?_
                              refine zw_6 zr_206_131 rfl ?_
                              refine zw_6 zr_206_133 rfl ?_
                              refine zw_29s (A := 99) (B := 99) zr_206_135 (by omega) (by omega) (by decide) ?_
                              intro x161 ex161 hx161a hx161b
                              skip
                              skip
                              refine zw_14 (L' := [(2, 69), (0, a0), (0, a1), (1, ((0 + x39) + x136)), (9, 0), (1, ((0 + x40) + x137)), (9, 0), (1, (x157 + x160)), (9, 0), (1, x161), (9, 0), (1, (0 + f127)), (9, 0), (0, (((0 + 1) + 1) + 1)), (1, x136), (9, 0), (1, x137), (9, 0)]) zr_206_136 (Nat.le_of_ble_eq_true rfl) rfl ?_
                              refine zw_6 zr_206_138 rfl ?_
                              refine zw_7 zr_206_140 rfl ?_
                              refine zw_46r (s := 70) zr_206_141 rfl rfl rfl rfl ?_
                              refine zw_push zr_206_144 ?_
                              refine zw_4 zr_206_147 rfl ?_
                              refine zw_16 zr_206_149 (by omega) ?_
                              refine zw_48k (c := 70) (len := 826) zr_206_150 rfl rfl (by omega) (by omega) (show ((818 + (((0 + 1) + 1) + 1)) : Int).toNat = 821 by omega) ef158 ?_
                              have qf158 : f158 = F70 ((818 + (((0 + 1) + 1) + 1)) : Int).toNat := by rw [show ((818 + (((0 + 1) + 1) + 1)) : Int).toNat = 821 by omega, ← hG70]; exact (ef158).symm
                              refine zw_36 zr_206_151 ?_
                              refine zw_27 zr_206_152 (by omega) ?_
                              refine zw_14 (L' := [(2, 69), (0, a0), (0, a1), (1, ((0 + x39) + x136)), (9, 0), (1, ((0 + x40) + x137)), (9, 0), (1, (x157 + x160)), (9, 0), (1, x161), (9, 0), (1, ((0 + f127) + f158)), (9, 0), (0, (((0 + 1) + 1) + 1)), (1, x136), (9, 0), (1, x137), (9, 0)]) zr_206_153 (Nat.le_of_ble_eq_true rfl) rfl ?_
                              have hP4 := prs_r (R := (fun c => F70 (10 + 8 * a0.toNat + 2 * c))) (A := (fun c => F70 (11 + 8 * a0.toNat + 2 * c))) (W := (fun c => F70 (818 + c))) (k := 4) hP3 rfl (qx136.trans (congrArg F70 (by omega))) (qx137.trans (congrArg F70 (by omega))) (qf158.trans (congrArg F70 (by omega))) (by omega) ex157 ex159 ex160 ex161 ⟨rfl, rfl⟩
                              refine zw_15 (c := 1) (L' := [(2, 69), (0, a0), (0, a1), (1, ((0 + x39) + x136)), (9, 0), (1, ((0 + x40) + x137)), (9, 0), (1, (x157 + x160)), (9, 0), (1, x161), (9, 0), (1, ((0 + f127) + f158)), (9, 0), (0, ((((0 + 1) + 1) + 1) + 1)), (1, x136), (9, 0), (1, x137), (9, 0)]) zr_206_155 rfl (by decide) (by omega) rfl ?_
                              refine zw_42 zr_206_158 ?_
                              skip
                              refine zw_4 zr_206_38 rfl ?_
                              refine zw_push zr_206_40 ?_
                              refine zw_41_3 zr_206_41 ?_ ?_
                              · intro h162
                                refine zw_6 zr_206_161 rfl ?_
                                refine zw_push zr_206_163 ?_
                                refine zw_39_4 zr_206_164 zr_206_165 ?_ ?_
                                · intro h163
                                  refine zw_3 zr_206_171 rfl ?_
                                  refine zw_40_4 zr_206_172 ?_ ?_
                                  · intro h164
                                    refine zw_7 zr_206_185 rfl ?_
                                    refine zw_6 zr_206_186 rfl ?_
                                    refine zw_6 zr_206_188 rfl ?_
                                    refine zw_6 zr_206_190 rfl ?_
                                    refine zw_29s (A := 9801) (B := 18) zr_206_192 (by omega) (by omega) (by decide) ?_
                                    intro x165 ex165 hx165a hx165b
                                    skip
                                    refine zw_C zr_206_193 (Or.inl rfl) zm_173 rfl rfl ⟨Nat.le_of_ble_eq_true rfl, Nat.le_of_ble_eq_true rfl, Nat.le_of_ble_eq_true rfl, rfl, by decide⟩ (by omega) (th_173 (d := d - 1) (by omega) hI0 (a0 := (x157 + x160)) (a1 := x165)      (by omega) (by omega) ) ?_
                                    rintro _ m166 ⟨rfl, hIm166, gm166, po0_m166⟩
                                    have hFm166 : zFr W_206 m0 m166 := hF0.trans gm166 rfl
                                    have km166_70_822 : m166 70 822 = g0 := (gm166 70 822 rfl).trans hg0
                                    have km166_70_819 : m166 70 819 = f127 := (gm166 70 819 rfl).trans ef127
                                    have km166_70_821 : m166 70 821 = f158 := (gm166 70 821 rfl).trans ef158
                                    have fm166_70 : m166 70 = F70 := (funext fun k => gm166 70 k rfl).trans hG70
                                    obtain ⟨f167, ef167⟩ : ∃ v, m166 69 3 = v := ⟨_, rfl⟩
                                    have bf167 := hIm166.fl (c := 69) (k := 3) rfl
                                    rw [ef167] at bf167
                                    rw [ef167] at po0_m166
                                    obtain ⟨f168, ef168⟩ : ∃ v, m166 69 4 = v := ⟨_, rfl⟩
                                    have bf168 := hIm166.fl (c := 69) (k := 4) rfl
                                    rw [ef168] at bf168
                                    rw [ef168] at po0_m166
                                    show zW E (d) 206 196 [(2, 69), (0, a0), (0, a1), (1, ((0 + x39) + x136)), (9, 0), (1, ((0 + x40) + x137)), (9, 0), (1, (x157 + x160)), (9, 0), (1, x161), (9, 0), (1, ((0 + f127) + f158)), (9, 0), (0, ((((0 + 1) + 1) + 1) + 1)), (1, x136), (9, 0), (1, x137), (9, 0)] [] m166 Q
                                    have hF := prs_t hP4 ex165 po0_m166
                                    refine zw_push zr_206_196 ?_
                                    refine zw_R zr_206_197 (by decide) zm_206 (v := (0, 1)) rfl ?_
                                    rw [← hQ]; exact ⟨_, rfl, by omega, by omega, hIm166, hFm166, by omega, by first | exact Or.inr (Or.inr ⟨by decide, ef167, ef168⟩) | exact Or.inl ⟨rfl, by omega, by rw [ef167, ef168, show F70 (10 + 8 * a0 + 2 * 0).toNat + F70 (10 + 8 * a0 + 2 * (0 + 1)).toNat + F70 (10 + 8 * a0 + 2 * ((0 + 1) + 1)).toNat + F70 (10 + 8 * a0 + 2 * (((0 + 1) + 1) + 1)).toNat = ((0 + x39) + x136) by omega, show F70 (10 + 8 * a0 + 2 * 0 + 1).toNat + F70 (10 + 8 * a0 + 2 * (0 + 1) + 1).toNat + F70 (10 + 8 * a0 + 2 * ((0 + 1) + 1) + 1).toNat + F70 (10 + 8 * a0 + 2 * (((0 + 1) + 1) + 1) + 1).toNat = ((0 + x40) + x137) by omega]; exact po0_m166⟩ | exact Or.inr (Or.inl ⟨rfl, by omega, by rw [ef167, ef168]; exact hF⟩)⟩
                                  · intro h171
                                    refine zw_7 zr_206_175 rfl ?_
                                    refine zw_5 zr_206_176 rfl ?_
                                    refine zw_6 zr_206_177 rfl ?_
                                    refine zw_C zr_206_179 (Or.inl rfl) zm_173 rfl rfl ⟨Nat.le_of_ble_eq_true rfl, Nat.le_of_ble_eq_true rfl, Nat.le_of_ble_eq_true rfl, rfl, by decide⟩ (by omega) (th_173 (d := d - 1) (by omega) hI0 (a0 := ((0 + x39) + x136)) (a1 := ((0 + x40) + x137))      (by omega) (by omega) ) ?_
                                    rintro _ m172 ⟨rfl, hIm172, gm172, po0_m172⟩
                                    have hFm172 : zFr W_206 m0 m172 := hF0.trans gm172 rfl
                                    have km172_70_822 : m172 70 822 = g0 := (gm172 70 822 rfl).trans hg0
                                    have km172_70_819 : m172 70 819 = f127 := (gm172 70 819 rfl).trans ef127
                                    have km172_70_821 : m172 70 821 = f158 := (gm172 70 821 rfl).trans ef158
                                    have fm172_70 : m172 70 = F70 := (funext fun k => gm172 70 k rfl).trans hG70
                                    obtain ⟨f173, ef173⟩ : ∃ v, m172 69 3 = v := ⟨_, rfl⟩
                                    have bf173 := hIm172.fl (c := 69) (k := 3) rfl
                                    rw [ef173] at bf173
                                    rw [ef173] at po0_m172
                                    obtain ⟨f174, ef174⟩ : ∃ v, m172 69 4 = v := ⟨_, rfl⟩
                                    have bf174 := hIm172.fl (c := 69) (k := 4) rfl
                                    rw [ef174] at bf174
                                    rw [ef174] at po0_m172
                                    show zW E (d) 206 182 [(2, 69), (0, a0), (0, a1), (1, ((0 + x39) + x136)), (9, 0), (1, ((0 + x40) + x137)), (9, 0), (1, (x157 + x160)), (9, 0), (1, x161), (9, 0), (1, ((0 + f127) + f158)), (9, 0), (0, ((((0 + 1) + 1) + 1) + 1)), (1, x136), (9, 0), (1, x137), (9, 0)] [] m172 Q
                                    skip
                                    refine zw_42 zr_206_182 ?_
                                    refine zw_push zr_206_196 ?_
                                    refine zw_R zr_206_197 (by decide) zm_206 (v := (0, 1)) rfl ?_
                                    rw [← hQ]; exact ⟨_, rfl, by omega, by omega, hIm172, hFm172, by omega, by first | exact Or.inr (Or.inr ⟨by decide, ef173, ef174⟩) | exact Or.inl ⟨rfl, by omega, by rw [ef173, ef174, show F70 (10 + 8 * a0 + 2 * 0).toNat + F70 (10 + 8 * a0 + 2 * (0 + 1)).toNat + F70 (10 + 8 * a0 + 2 * ((0 + 1) + 1)).toNat + F70 (10 + 8 * a0 + 2 * (((0 + 1) + 1) + 1)).toNat = ((0 + x39) + x136) by omega, show F70 (10 + 8 * a0 + 2 * 0 + 1).toNat + F70 (10 + 8 * a0 + 2 * (0 + 1) + 1).toNat + F70 (10 + 8 * a0 + 2 * ((0 + 1) + 1) + 1).toNat + F70 (10 + 8 * a0 + 2 * (((0 + 1) + 1) + 1) + 1).toNat = ((0 + x40) + x137) by omega]; exact po0_m172⟩ | exact Or.inr (Or.inl ⟨rfl, by omega, by rw [ef173, ef174]; exact hF⟩)⟩
                                · intro h177; omega
                              · intro h178; omega
                        · intro h179
                          refine zw_5 zr_206_93 rfl ?_
                          refine zw_6 zr_206_94 rfl ?_
                          refine zw_27 zr_206_96 (by omega) ?_
                          refine zw_13 (L' := [(2, 69), (0, a0), (0, a1), (1, ((0 + x39) + x131)), (9, 0), (1, (0 + x40)), (9, 0), (1, ((0 * x40) + (x128 * 1))), (9, 0), (1, (1 * x40)), (9, 0), (1, (0 + f127)), (9, 0), (0, ((0 + 1) + 1)), (1, x131), (9, 0), (1, x132), (9, 0)]) zr_206_97 (Nat.le_of_ble_eq_true rfl) rfl ?_
                          refine zw_6 zr_206_98 rfl ?_
                          refine zw_6 zr_206_100 rfl ?_
                          refine zw_27 zr_206_102 (by omega) ?_
                          refine zw_14 (L' := [(2, 69), (0, a0), (0, a1), (1, ((0 + x39) + x131)), (9, 0), (1, ((0 + x40) + x132)), (9, 0), (1, ((0 * x40) + (x128 * 1))), (9, 0), (1, (1 * x40)), (9, 0), (1, (0 + f127)), (9, 0), (0, ((0 + 1) + 1)), (1, x131), (9, 0), (1, x132), (9, 0)]) zr_206_103 (Nat.le_of_ble_eq_true rfl) rfl ?_
                          refine zw_6 zr_206_105 rfl ?_
                          refine zw_6 zr_206_107 rfl ?_
                          refine zw_29n (A := 891) (B := 99) zr_206_109 (by omega) (by omega) (by decide) ?_
                          intro x180 ex180 hx180a hx180b
                          skip
                          refine zw_7 zr_206_110 rfl ?_
                          refine zw_46r (s := 70) zr_206_111 rfl rfl rfl rfl ?_
                          refine zw_push zr_206_114 ?_
                          refine zw_4 zr_206_117 rfl ?_
                          refine zw_16 zr_206_119 (by omega) ?_
                          obtain ⟨f181, ef181⟩ : ∃ v, m0 70 820 = v := ⟨_, rfl⟩
                          have bf181 : 1 ≤ m0 70 820 ∧ m0 70 820 ≤ 9 := ib_70_weight hI0 (by omega)
                          rw [ef181] at bf181
                          refine zw_48k (c := 70) (len := 826) zr_206_120 rfl rfl (by omega) (by omega) (show ((818 + ((0 + 1) + 1)) : Int).toNat = 820 by omega) ef181 ?_
                          have qf181 : f181 = F70 ((818 + ((0 + 1) + 1)) : Int).toNat := by rw [show ((818 + ((0 + 1) + 1)) : Int).toNat = 820 by omega, ← hG70]; exact (ef181).symm
                          skip
                          refine zw_36 zr_206_121 ?_
                          refine zw_6 zr_206_122 rfl ?_
                          refine zw_29n (A := 9) (B := 99) zr_206_124 (by omega) (by omega) (by decide) ?_
                          intro x182 ex182 hx182a hx182b
                          skip
                          refine zw_6 zr_206_125 rfl ?_
                          refine zw_29n (A := 891) (B := 99) zr_206_127 (by omega) (by omega) (by decide) ?_
                          intro x183 ex183 hx183a hx183b
                          skip
                          refine zw_27 zr_206_128 (by omega) ?_
                          refine zw_14 (L' := [(2, 69), (0, a0), (0, a1), (1, ((0 + x39) + x131)), (9, 0), (1, ((0 + x40) + x132)), (9, 0), (1, (x180 + x183)), (9, 0), (1, (1 * x40)), (9, 0), (1, (0 + f127)), (9, 0), (0, ((0 + 1) + 1)), (1, x131), (9, 0), (1, x132), (9, 0)]) zr_206_129 (Nat.le_of_ble_eq_true rfl) rfl ?_
                          refine zw_6 zr_206_131 rfl ?_
                          refine zw_6 zr_206_133 rfl ?_
                          refine zw_29s (A := 99) (B := 99) zr_206_135 (by omega) (by omega) (by decide) ?_
                          intro x184 ex184 hx184a hx184b
                          skip
                          skip
                          refine zw_14 (L' := [(2, 69), (0, a0), (0, a1), (1, ((0 + x39) + x131)), (9, 0), (1, ((0 + x40) + x132)), (9, 0), (1, (x180 + x183)), (9, 0), (1, x184), (9, 0), (1, (0 + f127)), (9, 0), (0, ((0 + 1) + 1)), (1, x131), (9, 0), (1, x132), (9, 0)]) zr_206_136 (Nat.le_of_ble_eq_true rfl) rfl ?_
                          refine zw_6 zr_206_138 rfl ?_
                          refine zw_7 zr_206_140 rfl ?_
                          refine zw_46r (s := 70) zr_206_141 rfl rfl rfl rfl ?_
                          refine zw_push zr_206_144 ?_
                          refine zw_4 zr_206_147 rfl ?_
                          refine zw_16 zr_206_149 (by omega) ?_
                          refine zw_48k (c := 70) (len := 826) zr_206_150 rfl rfl (by omega) (by omega) (show ((818 + ((0 + 1) + 1)) : Int).toNat = 820 by omega) ef181 ?_
                          have qf181 : f181 = F70 ((818 + ((0 + 1) + 1)) : Int).toNat := by rw [show ((818 + ((0 + 1) + 1)) : Int).toNat = 820 by omega, ← hG70]; exact (ef181).symm
                          refine zw_36 zr_206_151 ?_
                          refine zw_27 zr_206_152 (by omega) ?_
                          refine zw_14 (L' := [(2, 69), (0, a0), (0, a1), (1, ((0 + x39) + x131)), (9, 0), (1, ((0 + x40) + x132)), (9, 0), (1, (x180 + x183)), (9, 0), (1, x184), (9, 0), (1, ((0 + f127) + f181)), (9, 0), (0, ((0 + 1) + 1)), (1, x131), (9, 0), (1, x132), (9, 0)]) zr_206_153 (Nat.le_of_ble_eq_true rfl) rfl ?_
                          have hP3 := prs_r (R := (fun c => F70 (10 + 8 * a0.toNat + 2 * c))) (A := (fun c => F70 (11 + 8 * a0.toNat + 2 * c))) (W := (fun c => F70 (818 + c))) (k := 3) hP2 rfl (qx131.trans (congrArg F70 (by omega))) (qx132.trans (congrArg F70 (by omega))) (qf181.trans (congrArg F70 (by omega))) (by omega) ex180 ex182 ex183 ex184 ⟨rfl, rfl⟩
                          refine zw_15 (c := 1) (L' := [(2, 69), (0, a0), (0, a1), (1, ((0 + x39) + x131)), (9, 0), (1, ((0 + x40) + x132)), (9, 0), (1, (x180 + x183)), (9, 0), (1, x184), (9, 0), (1, ((0 + f127) + f181)), (9, 0), (0, (((0 + 1) + 1) + 1)), (1, x131), (9, 0), (1, x132), (9, 0)]) zr_206_155 rfl (by decide) (by omega) rfl ?_
                          refine zw_42 zr_206_158 ?_
                          skip
                          refine zw_4 zr_206_38 rfl ?_
                          refine zw_push zr_206_40 ?_
                          refine zw_41_3 zr_206_41 ?_ ?_
                          · intro h185; omega
                          · intro h186
                            refine zw_7 zr_206_44 rfl ?_
                            refine zw_46r (s := 70) zr_206_45 rfl rfl rfl rfl ?_
                            refine zw_push zr_206_48 ?_
                            refine zw_push zr_206_50 ?_
                            refine zw_3 zr_206_52 rfl ?_
                            refine zw_18 zr_206_53 (by omega) ?_
                            refine zw_16 zr_206_54 (by omega) ?_
                            refine zw_push zr_206_55 ?_
                            refine zw_4 zr_206_56 rfl ?_
                            refine zw_18 zr_206_58 (by omega) ?_
                            refine zw_16 zr_206_59 (by omega) ?_
                            refine zw_48 (c := 70) (len := 826) zr_206_60 rfl rfl (by omega) (by omega) ?_
                            intro x187 ex187
                            have bx187 := ib_70_moves hI0 (k := (((10 + (8 * a0)) + (2 * (((0 + 1) + 1) + 1)))).toNat) (by omega)
                            rw [← ex187] at bx187
                            have qx187 : x187 = F70 (((10 + (8 * a0)) + (2 * (((0 + 1) + 1) + 1)))).toNat := by rw [← hG70]; exact ex187
                            clear ex187
                            skip
                            refine zw_36 zr_206_61 ?_
                            refine zw_14 (L' := [(2, 69), (0, a0), (0, a1), (1, ((0 + x39) + x131)), (9, 0), (1, ((0 + x40) + x132)), (9, 0), (1, (x180 + x183)), (9, 0), (1, x184), (9, 0), (1, ((0 + f127) + f181)), (9, 0), (0, (((0 + 1) + 1) + 1)), (1, x187), (9, 0), (1, x132), (9, 0)]) zr_206_62 (Nat.le_of_ble_eq_true rfl) rfl ?_
                            refine zw_7 zr_206_64 rfl ?_
                            refine zw_46r (s := 70) zr_206_65 rfl rfl rfl rfl ?_
                            refine zw_push zr_206_68 ?_
                            refine zw_push zr_206_70 ?_
                            refine zw_3 zr_206_72 rfl ?_
                            refine zw_18 zr_206_73 (by omega) ?_
                            refine zw_16 zr_206_74 (by omega) ?_
                            refine zw_push zr_206_75 ?_
                            refine zw_4 zr_206_76 rfl ?_
                            refine zw_18 zr_206_78 (by omega) ?_
                            refine zw_16 zr_206_79 (by omega) ?_
                            refine zw_push zr_206_80 ?_
                            refine zw_16 zr_206_81 (by omega) ?_
                            refine zw_48 (c := 70) (len := 826) zr_206_82 rfl rfl (by omega) (by omega) ?_
                            intro x188 ex188
                            have bx188 := ib_70_moves hI0 (k := ((((10 + (8 * a0)) + (2 * (((0 + 1) + 1) + 1))) + 1)).toNat) (by omega)
                            rw [← ex188] at bx188
                            have qx188 : x188 = F70 ((((10 + (8 * a0)) + (2 * (((0 + 1) + 1) + 1))) + 1)).toNat := by rw [← hG70]; exact ex188
                            clear ex188
                            skip
                            skip
                            refine zw_36 zr_206_83 ?_
                            refine zw_14 (L' := [(2, 69), (0, a0), (0, a1), (1, ((0 + x39) + x131)), (9, 0), (1, ((0 + x40) + x132)), (9, 0), (1, (x180 + x183)), (9, 0), (1, x184), (9, 0), (1, ((0 + f127) + f181)), (9, 0), (0, (((0 + 1) + 1) + 1)), (1, x187), (9, 0), (1, x188), (9, 0)]) zr_206_84 (Nat.le_of_ble_eq_true rfl) rfl ?_
                            refine zw_6 zr_206_86 rfl ?_
                            refine zw_push zr_206_88 ?_
                            refine zw_39_5 zr_206_89 zr_206_90 ?_ ?_
                            · intro h189
                              have hP4 := prs_n (R := (fun c => F70 (10 + 8 * a0.toNat + 2 * c))) (A := (fun c => F70 (11 + 8 * a0.toNat + 2 * c))) (W := (fun c => F70 (818 + c))) (k := 4) hP3 rfl (qx188.trans (congrArg F70 (by omega))) (by omega)
                              refine zw_15 (c := 1) (L' := [(2, 69), (0, a0), (0, a1), (1, ((0 + x39) + x131)), (9, 0), (1, ((0 + x40) + x132)), (9, 0), (1, (x180 + x183)), (9, 0), (1, x184), (9, 0), (1, ((0 + f127) + f181)), (9, 0), (0, ((((0 + 1) + 1) + 1) + 1)), (1, x187), (9, 0), (1, x188), (9, 0)]) zr_206_155 rfl (by decide) (by omega) rfl ?_
                              refine zw_42 zr_206_158 ?_
                              skip
                              refine zw_4 zr_206_38 rfl ?_
                              refine zw_push zr_206_40 ?_
                              refine zw_41_3 zr_206_41 ?_ ?_
                              · intro h190
                                refine zw_6 zr_206_161 rfl ?_
                                refine zw_push zr_206_163 ?_
                                refine zw_39_4 zr_206_164 zr_206_165 ?_ ?_
                                · intro h191
                                  refine zw_3 zr_206_171 rfl ?_
                                  refine zw_40_4 zr_206_172 ?_ ?_
                                  · intro h192
                                    refine zw_7 zr_206_185 rfl ?_
                                    refine zw_6 zr_206_186 rfl ?_
                                    refine zw_6 zr_206_188 rfl ?_
                                    refine zw_6 zr_206_190 rfl ?_
                                    refine zw_29s (A := 9801) (B := 18) zr_206_192 (by omega) (by omega) (by decide) ?_
                                    intro x193 ex193 hx193a hx193b
                                    skip
                                    refine zw_C zr_206_193 (Or.inl rfl) zm_173 rfl rfl ⟨Nat.le_of_ble_eq_true rfl, Nat.le_of_ble_eq_true rfl, Nat.le_of_ble_eq_true rfl, rfl, by decide⟩ (by omega) (th_173 (d := d - 1) (by omega) hI0 (a0 := (x180 + x183)) (a1 := x193)      (by omega) (by omega) ) ?_
                                    rintro _ m194 ⟨rfl, hIm194, gm194, po0_m194⟩
                                    have hFm194 : zFr W_206 m0 m194 := hF0.trans gm194 rfl
                                    have km194_70_822 : m194 70 822 = g0 := (gm194 70 822 rfl).trans hg0
                                    have km194_70_819 : m194 70 819 = f127 := (gm194 70 819 rfl).trans ef127
                                    have km194_70_820 : m194 70 820 = f181 := (gm194 70 820 rfl).trans ef181
                                    have fm194_70 : m194 70 = F70 := (funext fun k => gm194 70 k rfl).trans hG70
                                    obtain ⟨f195, ef195⟩ : ∃ v, m194 69 3 = v := ⟨_, rfl⟩
                                    have bf195 := hIm194.fl (c := 69) (k := 3) rfl
                                    rw [ef195] at bf195
                                    rw [ef195] at po0_m194
                                    obtain ⟨f196, ef196⟩ : ∃ v, m194 69 4 = v := ⟨_, rfl⟩
                                    have bf196 := hIm194.fl (c := 69) (k := 4) rfl
                                    rw [ef196] at bf196
                                    rw [ef196] at po0_m194
                                    show zW E (d) 206 196 [(2, 69), (0, a0), (0, a1), (1, ((0 + x39) + x131)), (9, 0), (1, ((0 + x40) + x132)), (9, 0), (1, (x180 + x183)), (9, 0), (1, x184), (9, 0), (1, ((0 + f127) + f181)), (9, 0), (0, ((((0 + 1) + 1) + 1) + 1)), (1, x187), (9, 0), (1, x188), (9, 0)] [] m194 Q
                                    have hF := prs_t hP4 ex193 po0_m194
                                    refine zw_push zr_206_196 ?_
                                    refine zw_R zr_206_197 (by decide) zm_206 (v := (0, 1)) rfl ?_
                                    rw [← hQ]; exact ⟨_, rfl, by omega, by omega, hIm194, hFm194, by omega, by first | exact Or.inr (Or.inr ⟨by decide, ef195, ef196⟩) | exact Or.inl ⟨rfl, by omega, by rw [ef195, ef196, show F70 (10 + 8 * a0 + 2 * 0).toNat + F70 (10 + 8 * a0 + 2 * (0 + 1)).toNat + F70 (10 + 8 * a0 + 2 * ((0 + 1) + 1)).toNat + F70 (10 + 8 * a0 + 2 * (((0 + 1) + 1) + 1)).toNat = ((0 + x39) + x131) by omega, show F70 (10 + 8 * a0 + 2 * 0 + 1).toNat + F70 (10 + 8 * a0 + 2 * (0 + 1) + 1).toNat + F70 (10 + 8 * a0 + 2 * ((0 + 1) + 1) + 1).toNat + F70 (10 + 8 * a0 + 2 * (((0 + 1) + 1) + 1) + 1).toNat = ((0 + x40) + x132) by omega]; exact po0_m194⟩ | exact Or.inr (Or.inl ⟨rfl, by omega, by rw [ef195, ef196]; exact hF⟩)⟩
                                  · intro h199
                                    refine zw_7 zr_206_175 rfl ?_
                                    refine zw_5 zr_206_176 rfl ?_
                                    refine zw_6 zr_206_177 rfl ?_
                                    refine zw_C zr_206_179 (Or.inl rfl) zm_173 rfl rfl ⟨Nat.le_of_ble_eq_true rfl, Nat.le_of_ble_eq_true rfl, Nat.le_of_ble_eq_true rfl, rfl, by decide⟩ (by omega) (th_173 (d := d - 1) (by omega) hI0 (a0 := ((0 + x39) + x131)) (a1 := ((0 + x40) + x132))      (by omega) (by omega) ) ?_
                                    rintro _ m200 ⟨rfl, hIm200, gm200, po0_m200⟩
                                    have hFm200 : zFr W_206 m0 m200 := hF0.trans gm200 rfl
                                    have km200_70_822 : m200 70 822 = g0 := (gm200 70 822 rfl).trans hg0
                                    have km200_70_819 : m200 70 819 = f127 := (gm200 70 819 rfl).trans ef127
                                    have km200_70_820 : m200 70 820 = f181 := (gm200 70 820 rfl).trans ef181
                                    have fm200_70 : m200 70 = F70 := (funext fun k => gm200 70 k rfl).trans hG70
                                    obtain ⟨f201, ef201⟩ : ∃ v, m200 69 3 = v := ⟨_, rfl⟩
                                    have bf201 := hIm200.fl (c := 69) (k := 3) rfl
                                    rw [ef201] at bf201
                                    rw [ef201] at po0_m200
                                    obtain ⟨f202, ef202⟩ : ∃ v, m200 69 4 = v := ⟨_, rfl⟩
                                    have bf202 := hIm200.fl (c := 69) (k := 4) rfl
                                    rw [ef202] at bf202
                                    rw [ef202] at po0_m200
                                    show zW E (d) 206 182 [(2, 69), (0, a0), (0, a1), (1, ((0 + x39) + x131)), (9, 0), (1, ((0 + x40) + x132)), (9, 0), (1, (x180 + x183)), (9, 0), (1, x184), (9, 0), (1, ((0 + f127) + f181)), (9, 0), (0, ((((0 + 1) + 1) + 1) + 1)), (1, x187), (9, 0), (1, x188), (9, 0)] [] m200 Q
                                    skip
                                    refine zw_42 zr_206_182 ?_
                                    refine zw_push zr_206_196 ?_
                                    refine zw_R zr_206_197 (by decide) zm_206 (v := (0, 1)) rfl ?_
                                    rw [← hQ]; exact ⟨_, rfl, by omega, by omega, hIm200, hFm200, by omega, by first | exact Or.inr (Or.inr ⟨by decide, ef201, ef202⟩) | exact Or.inl ⟨rfl, by omega, by rw [ef201, ef202, show F70 (10 + 8 * a0 + 2 * 0).toNat + F70 (10 + 8 * a0 + 2 * (0 + 1)).toNat + F70 (10 + 8 * a0 + 2 * ((0 + 1) + 1)).toNat + F70 (10 + 8 * a0 + 2 * (((0 + 1) + 1) + 1)).toNat = ((0 + x39) + x131) by omega, show F70 (10 + 8 * a0 + 2 * 0 + 1).toNat + F70 (10 + 8 * a0 + 2 * (0 + 1) + 1).toNat + F70 (10 + 8 * a0 + 2 * ((0 + 1) + 1) + 1).toNat + F70 (10 + 8 * a0 + 2 * (((0 + 1) + 1) + 1) + 1).toNat = ((0 + x40) + x132) by omega]; exact po0_m200⟩ | exact Or.inr (Or.inl ⟨rfl, by omega, by rw [ef201, ef202]; exact hF⟩)⟩
                                · intro h205; omega
                              · intro h206; omega
                            · intro h207
                              refine zw_5 zr_206_93 rfl ?_
                              refine zw_6 zr_206_94 rfl ?_
                              refine zw_27 zr_206_96 (by omega) ?_
                              refine zw_13 (L' := [(2, 69), (0, a0), (0, a1), (1, (((0 + x39) + x131) + x187)), (9, 0), (1, ((0 + x40) + x132)), (9, 0), (1, (x180 + x183)), (9, 0), (1, x184), (9, 0), (1, ((0 + f127) + f181)), (9, 0), (0, (((0 + 1) + 1) + 1)), (1, x187), (9, 0), (1, x188), (9, 0)]) zr_206_97 (Nat.le_of_ble_eq_true rfl) rfl ?_
                              refine zw_6 zr_206_98 rfl ?_
                              refine zw_6 zr_206_100 rfl ?_
                              refine zw_27 zr_206_102 (by omega) ?_
                              refine zw_14 (L' := [(2, 69), (0, a0), (0, a1), (1, (((0 + x39) + x131) + x187)), (9, 0), (1, (((0 + x40) + x132) + x188)), (9, 0), (1, (x180 + x183)), (9, 0), (1, x184), (9, 0), (1, ((0 + f127) + f181)), (9, 0), (0, (((0 + 1) + 1) + 1)), (1, x187), (9, 0), (1, x188), (9, 0)]) zr_206_103 (Nat.le_of_ble_eq_true rfl) rfl ?_
                              refine zw_6 zr_206_105 rfl ?_
                              refine zw_6 zr_206_107 rfl ?_
                              refine zw_29n (A := 176418) (B := 99) zr_206_109 (by omega) (by omega) (by decide) ?_
                              intro x208 ex208 hx208a hx208b
                              skip
                              refine zw_7 zr_206_110 rfl ?_
                              refine zw_46r (s := 70) zr_206_111 rfl rfl rfl rfl ?_
                              refine zw_push zr_206_114 ?_
                              refine zw_4 zr_206_117 rfl ?_
                              refine zw_16 zr_206_119 (by omega) ?_
                              obtain ⟨f209, ef209⟩ : ∃ v, m0 70 821 = v := ⟨_, rfl⟩
                              have bf209 : 1 ≤ m0 70 821 ∧ m0 70 821 ≤ 9 := ib_70_weight hI0 (by omega)
                              rw [ef209] at bf209
                              refine zw_48k (c := 70) (len := 826) zr_206_120 rfl rfl (by omega) (by omega) (show ((818 + (((0 + 1) + 1) + 1)) : Int).toNat = 821 by omega) ef209 ?_
                              have qf209 : f209 = F70 ((818 + (((0 + 1) + 1) + 1)) : Int).toNat := by rw [show ((818 + (((0 + 1) + 1) + 1)) : Int).toNat = 821 by omega, ← hG70]; exact (ef209).symm
                              skip
                              refine zw_36 zr_206_121 ?_
                              refine zw_6 zr_206_122 rfl ?_
                              refine zw_29n (A := 9) (B := 99) zr_206_124 (by omega) (by omega) (by decide) ?_
                              intro x210 ex210 hx210a hx210b
                              skip
                              refine zw_6 zr_206_125 rfl ?_
                              refine zw_29n (A := 891) (B := 9801) zr_206_127 (by omega) (by omega) (by decide) ?_
                              intro x211 ex211 hx211a hx211b
                              skip
                              refine zw_27 zr_206_128 (by omega) ?_
                              refine zw_14 (L' := [(2, 69), (0, a0), (0, a1), (1, (((0 + x39) + x131) + x187)), (9, 0), (1, (((0 + x40) + x132) + x188)), (9, 0), (1, (x208 + x211)), (9, 0), (1, x184), (9, 0), (1, ((0 + f127) + f181)), (9, 0), (0, (((0 + 1) + 1) + 1)), (1, x187), (9, 0), (1, x188), (9, 0)]) zr_206_129 (Nat.le_of_ble_eq_true rfl) rfl ?_
                              refine zw_6 zr_206_131 rfl ?_
                              refine zw_6 zr_206_133 rfl ?_
                              refine zw_29s (A := 9801) (B := 99) zr_206_135 (by omega) (by omega) (by decide) ?_
                              intro x212 ex212 hx212a hx212b
                              skip
                              skip
                              refine zw_14 (L' := [(2, 69), (0, a0), (0, a1), (1, (((0 + x39) + x131) + x187)), (9, 0), (1, (((0 + x40) + x132) + x188)), (9, 0), (1, (x208 + x211)), (9, 0), (1, x212), (9, 0), (1, ((0 + f127) + f181)), (9, 0), (0, (((0 + 1) + 1) + 1)), (1, x187), (9, 0), (1, x188), (9, 0)]) zr_206_136 (Nat.le_of_ble_eq_true rfl) rfl ?_
                              refine zw_6 zr_206_138 rfl ?_
                              refine zw_7 zr_206_140 rfl ?_
                              refine zw_46r (s := 70) zr_206_141 rfl rfl rfl rfl ?_
                              refine zw_push zr_206_144 ?_
                              refine zw_4 zr_206_147 rfl ?_
                              refine zw_16 zr_206_149 (by omega) ?_
                              refine zw_48k (c := 70) (len := 826) zr_206_150 rfl rfl (by omega) (by omega) (show ((818 + (((0 + 1) + 1) + 1)) : Int).toNat = 821 by omega) ef209 ?_
                              have qf209 : f209 = F70 ((818 + (((0 + 1) + 1) + 1)) : Int).toNat := by rw [show ((818 + (((0 + 1) + 1) + 1)) : Int).toNat = 821 by omega, ← hG70]; exact (ef209).symm
                              refine zw_36 zr_206_151 ?_
                              refine zw_27 zr_206_152 (by omega) ?_
                              refine zw_14 (L' := [(2, 69), (0, a0), (0, a1), (1, (((0 + x39) + x131) + x187)), (9, 0), (1, (((0 + x40) + x132) + x188)), (9, 0), (1, (x208 + x211)), (9, 0), (1, x212), (9, 0), (1, (((0 + f127) + f181) + f209)), (9, 0), (0, (((0 + 1) + 1) + 1)), (1, x187), (9, 0), (1, x188), (9, 0)]) zr_206_153 (Nat.le_of_ble_eq_true rfl) rfl ?_
                              have hP4 := prs_r (R := (fun c => F70 (10 + 8 * a0.toNat + 2 * c))) (A := (fun c => F70 (11 + 8 * a0.toNat + 2 * c))) (W := (fun c => F70 (818 + c))) (k := 4) hP3 rfl (qx187.trans (congrArg F70 (by omega))) (qx188.trans (congrArg F70 (by omega))) (qf209.trans (congrArg F70 (by omega))) (by omega) ex208 ex210 ex211 ex212 ⟨rfl, rfl⟩
                              refine zw_15 (c := 1) (L' := [(2, 69), (0, a0), (0, a1), (1, (((0 + x39) + x131) + x187)), (9, 0), (1, (((0 + x40) + x132) + x188)), (9, 0), (1, (x208 + x211)), (9, 0), (1, x212), (9, 0), (1, (((0 + f127) + f181) + f209)), (9, 0), (0, ((((0 + 1) + 1) + 1) + 1)), (1, x187), (9, 0), (1, x188), (9, 0)]) zr_206_155 rfl (by decide) (by omega) rfl ?_
                              refine zw_42 zr_206_158 ?_
                              skip
                              refine zw_4 zr_206_38 rfl ?_
                              refine zw_push zr_206_40 ?_
                              refine zw_41_3 zr_206_41 ?_ ?_
                              · intro h213
                                refine zw_6 zr_206_161 rfl ?_
                                refine zw_push zr_206_163 ?_
                                refine zw_39_4 zr_206_164 zr_206_165 ?_ ?_
                                · intro h214
                                  refine zw_3 zr_206_171 rfl ?_
                                  refine zw_40_4 zr_206_172 ?_ ?_
                                  · intro h215
                                    refine zw_7 zr_206_185 rfl ?_
                                    refine zw_6 zr_206_186 rfl ?_
                                    refine zw_6 zr_206_188 rfl ?_
                                    refine zw_6 zr_206_190 rfl ?_
                                    refine zw_29s (A := 970299) (B := 27) zr_206_192 (by omega) (by omega) (by decide) ?_
                                    intro x216 ex216 hx216a hx216b
                                    skip
                                    refine zw_C zr_206_193 (Or.inl rfl) zm_173 rfl rfl ⟨Nat.le_of_ble_eq_true rfl, Nat.le_of_ble_eq_true rfl, Nat.le_of_ble_eq_true rfl, rfl, by decide⟩ (by omega) (th_173 (d := d - 1) (by omega) hI0 (a0 := (x208 + x211)) (a1 := x216)      (by omega) (by omega) ) ?_
                                    rintro _ m217 ⟨rfl, hIm217, gm217, po0_m217⟩
                                    have hFm217 : zFr W_206 m0 m217 := hF0.trans gm217 rfl
                                    have km217_70_822 : m217 70 822 = g0 := (gm217 70 822 rfl).trans hg0
                                    have km217_70_819 : m217 70 819 = f127 := (gm217 70 819 rfl).trans ef127
                                    have km217_70_820 : m217 70 820 = f181 := (gm217 70 820 rfl).trans ef181
                                    have km217_70_821 : m217 70 821 = f209 := (gm217 70 821 rfl).trans ef209
                                    have fm217_70 : m217 70 = F70 := (funext fun k => gm217 70 k rfl).trans hG70
                                    obtain ⟨f218, ef218⟩ : ∃ v, m217 69 3 = v := ⟨_, rfl⟩
                                    have bf218 := hIm217.fl (c := 69) (k := 3) rfl
                                    rw [ef218] at bf218
                                    rw [ef218] at po0_m217
                                    obtain ⟨f219, ef219⟩ : ∃ v, m217 69 4 = v := ⟨_, rfl⟩
                                    have bf219 := hIm217.fl (c := 69) (k := 4) rfl
                                    rw [ef219] at bf219
                                    rw [ef219] at po0_m217
                                    show zW E (d) 206 196 [(2, 69), (0, a0), (0, a1), (1, (((0 + x39) + x131) + x187)), (9, 0), (1, (((0 + x40) + x132) + x188)), (9, 0), (1, (x208 + x211)), (9, 0), (1, x212), (9, 0), (1, (((0 + f127) + f181) + f209)), (9, 0), (0, ((((0 + 1) + 1) + 1) + 1)), (1, x187), (9, 0), (1, x188), (9, 0)] [] m217 Q
                                    have hF := prs_t hP4 ex216 po0_m217
                                    refine zw_push zr_206_196 ?_
                                    refine zw_R zr_206_197 (by decide) zm_206 (v := (0, 1)) rfl ?_
                                    rw [← hQ]; exact ⟨_, rfl, by omega, by omega, hIm217, hFm217, by omega, by first | exact Or.inr (Or.inr ⟨by decide, ef218, ef219⟩) | exact Or.inl ⟨rfl, by omega, by rw [ef218, ef219, show F70 (10 + 8 * a0 + 2 * 0).toNat + F70 (10 + 8 * a0 + 2 * (0 + 1)).toNat + F70 (10 + 8 * a0 + 2 * ((0 + 1) + 1)).toNat + F70 (10 + 8 * a0 + 2 * (((0 + 1) + 1) + 1)).toNat = (((0 + x39) + x131) + x187) by omega, show F70 (10 + 8 * a0 + 2 * 0 + 1).toNat + F70 (10 + 8 * a0 + 2 * (0 + 1) + 1).toNat + F70 (10 + 8 * a0 + 2 * ((0 + 1) + 1) + 1).toNat + F70 (10 + 8 * a0 + 2 * (((0 + 1) + 1) + 1) + 1).toNat = (((0 + x40) + x132) + x188) by omega]; exact po0_m217⟩ | exact Or.inr (Or.inl ⟨rfl, by omega, by rw [ef218, ef219]; exact hF⟩)⟩
                                  · intro h222
                                    refine zw_7 zr_206_175 rfl ?_
                                    refine zw_5 zr_206_176 rfl ?_
                                    refine zw_6 zr_206_177 rfl ?_
                                    refine zw_C zr_206_179 (Or.inl rfl) zm_173 rfl rfl ⟨Nat.le_of_ble_eq_true rfl, Nat.le_of_ble_eq_true rfl, Nat.le_of_ble_eq_true rfl, rfl, by decide⟩ (by omega) (th_173 (d := d - 1) (by omega) hI0 (a0 := (((0 + x39) + x131) + x187)) (a1 := (((0 + x40) + x132) + x188))      (by omega) (by omega) ) ?_
                                    rintro _ m223 ⟨rfl, hIm223, gm223, po0_m223⟩
                                    have hFm223 : zFr W_206 m0 m223 := hF0.trans gm223 rfl
                                    have km223_70_822 : m223 70 822 = g0 := (gm223 70 822 rfl).trans hg0
                                    have km223_70_819 : m223 70 819 = f127 := (gm223 70 819 rfl).trans ef127
                                    have km223_70_820 : m223 70 820 = f181 := (gm223 70 820 rfl).trans ef181
                                    have km223_70_821 : m223 70 821 = f209 := (gm223 70 821 rfl).trans ef209
                                    have fm223_70 : m223 70 = F70 := (funext fun k => gm223 70 k rfl).trans hG70
                                    obtain ⟨f224, ef224⟩ : ∃ v, m223 69 3 = v := ⟨_, rfl⟩
                                    have bf224 := hIm223.fl (c := 69) (k := 3) rfl
                                    rw [ef224] at bf224
                                    rw [ef224] at po0_m223
                                    obtain ⟨f225, ef225⟩ : ∃ v, m223 69 4 = v := ⟨_, rfl⟩
                                    have bf225 := hIm223.fl (c := 69) (k := 4) rfl
                                    rw [ef225] at bf225
                                    rw [ef225] at po0_m223
                                    show zW E (d) 206 182 [(2, 69), (0, a0), (0, a1), (1, (((0 + x39) + x131) + x187)), (9, 0), (1, (((0 + x40) + x132) + x188)), (9, 0), (1, (x208 + x211)), (9, 0), (1, x212), (9, 0), (1, (((0 + f127) + f181) + f209)), (9, 0), (0, ((((0 + 1) + 1) + 1) + 1)), (1, x187), (9, 0), (1, x188), (9, 0)] [] m223 Q
                                    skip
                                    refine zw_42 zr_206_182 ?_
                                    refine zw_push zr_206_196 ?_
                                    refine zw_R zr_206_197 (by decide) zm_206 (v := (0, 1)) rfl ?_
                                    rw [← hQ]; exact ⟨_, rfl, by omega, by omega, hIm223, hFm223, by omega, by first | exact Or.inr (Or.inr ⟨by decide, ef224, ef225⟩) | exact Or.inl ⟨rfl, by omega, by rw [ef224, ef225, show F70 (10 + 8 * a0 + 2 * 0).toNat + F70 (10 + 8 * a0 + 2 * (0 + 1)).toNat + F70 (10 + 8 * a0 + 2 * ((0 + 1) + 1)).toNat + F70 (10 + 8 * a0 + 2 * (((0 + 1) + 1) + 1)).toNat = (((0 + x39) + x131) + x187) by omega, show F70 (10 + 8 * a0 + 2 * 0 + 1).toNat + F70 (10 + 8 * a0 + 2 * (0 + 1) + 1).toNat + F70 (10 + 8 * a0 + 2 * ((0 + 1) + 1) + 1).toNat + F70 (10 + 8 * a0 + 2 * (((0 + 1) + 1) + 1) + 1).toNat = (((0 + x40) + x132) + x188) by omega]; exact po0_m223⟩ | exact Or.inr (Or.inl ⟨rfl, by omega, by rw [ef224, ef225]; exact hF⟩)⟩
                                · intro h228; omega
                              · intro h229; omega
                · intro h230
                  refine zw_5 zr_206_93 rfl ?_
                  refine zw_6 zr_206_94 rfl ?_
                  refine zw_27 zr_206_96 (by omega) ?_
                  refine zw_13 (L' := [(2, 69), (0, a0), (0, a1), (1, (0 + x34)), (9, 0), (1, 0), (9, 0), (1, 0), (9, 0), (1, 1), (9, 0), (1, 0), (9, 0), (0, 0), (1, x34), (9, 0), (1, x35), (9, 0)]) zr_206_97 (Nat.le_of_ble_eq_true rfl) rfl ?_
                  refine zw_6 zr_206_98 rfl ?_
                  refine zw_6 zr_206_100 rfl ?_
                  refine zw_27 zr_206_102 (by omega) ?_
                  refine zw_14 (L' := [(2, 69), (0, a0), (0, a1), (1, (0 + x34)), (9, 0), (1, (0 + x35)), (9, 0), (1, 0), (9, 0), (1, 1), (9, 0), (1, 0), (9, 0), (0, 0), (1, x34), (9, 0), (1, x35), (9, 0)]) zr_206_103 (Nat.le_of_ble_eq_true rfl) rfl ?_
                  refine zw_6 zr_206_105 rfl ?_
                  refine zw_6 zr_206_107 rfl ?_
                  refine zw_29 zr_206_109 (by omega) ?_
                  skip
                  refine zw_7 zr_206_110 rfl ?_
                  refine zw_46r (s := 70) zr_206_111 rfl rfl rfl rfl ?_
                  refine zw_push zr_206_114 ?_
                  refine zw_4 zr_206_117 rfl ?_
                  refine zw_16 zr_206_119 (by omega) ?_
                  obtain ⟨f231, ef231⟩ : ∃ v, m0 70 818 = v := ⟨_, rfl⟩
                  have bf231 : 1 ≤ m0 70 818 ∧ m0 70 818 ≤ 9 := ib_70_weight hI0 (by omega)
                  rw [ef231] at bf231
                  refine zw_48k (c := 70) (len := 826) zr_206_120 rfl rfl (by omega) (by omega) (show ((818 + 0) : Int).toNat = 818 by omega) ef231 ?_
                  have qf231 : f231 = F70 ((818 + 0) : Int).toNat := by rw [show ((818 + 0) : Int).toNat = 818 by omega, ← hG70]; exact (ef231).symm
                  skip
                  refine zw_36 zr_206_121 ?_
                  refine zw_6 zr_206_122 rfl ?_
                  refine zw_29n (A := 9) (B := 99) zr_206_124 (by omega) (by omega) (by decide) ?_
                  intro x232 ex232 hx232a hx232b
                  skip
                  refine zw_6 zr_206_125 rfl ?_
                  refine zw_29 zr_206_127 (by omega) ?_
                  skip
                  refine zw_27 zr_206_128 (by omega) ?_
                  refine zw_14 (L' := [(2, 69), (0, a0), (0, a1), (1, (0 + x34)), (9, 0), (1, (0 + x35)), (9, 0), (1, ((0 * x35) + (x232 * 1))), (9, 0), (1, 1), (9, 0), (1, 0), (9, 0), (0, 0), (1, x34), (9, 0), (1, x35), (9, 0)]) zr_206_129 (Nat.le_of_ble_eq_true rfl) rfl ?_
                  refine zw_6 zr_206_131 rfl ?_
                  refine zw_6 zr_206_133 rfl ?_
                  refine zw_29 zr_206_135 (by omega) ?_
                  skip
                  skip
                  refine zw_14 (L' := [(2, 69), (0, a0), (0, a1), (1, (0 + x34)), (9, 0), (1, (0 + x35)), (9, 0), (1, ((0 * x35) + (x232 * 1))), (9, 0), (1, (1 * x35)), (9, 0), (1, 0), (9, 0), (0, 0), (1, x34), (9, 0), (1, x35), (9, 0)]) zr_206_136 (Nat.le_of_ble_eq_true rfl) rfl ?_
                  refine zw_6 zr_206_138 rfl ?_
                  refine zw_7 zr_206_140 rfl ?_
                  refine zw_46r (s := 70) zr_206_141 rfl rfl rfl rfl ?_
                  refine zw_push zr_206_144 ?_
                  refine zw_4 zr_206_147 rfl ?_
                  refine zw_16 zr_206_149 (by omega) ?_
                  refine zw_48k (c := 70) (len := 826) zr_206_150 rfl rfl (by omega) (by omega) (show ((818 + 0) : Int).toNat = 818 by omega) ef231 ?_
                  have qf231 : f231 = F70 ((818 + 0) : Int).toNat := by rw [show ((818 + 0) : Int).toNat = 818 by omega, ← hG70]; exact (ef231).symm
                  refine zw_36 zr_206_151 ?_
                  refine zw_27 zr_206_152 (by omega) ?_
                  refine zw_14 (L' := [(2, 69), (0, a0), (0, a1), (1, (0 + x34)), (9, 0), (1, (0 + x35)), (9, 0), (1, ((0 * x35) + (x232 * 1))), (9, 0), (1, (1 * x35)), (9, 0), (1, (0 + f231)), (9, 0), (0, 0), (1, x34), (9, 0), (1, x35), (9, 0)]) zr_206_153 (Nat.le_of_ble_eq_true rfl) rfl ?_
                  have hP1 := prs_r (R := (fun c => F70 (10 + 8 * a0.toNat + 2 * c))) (A := (fun c => F70 (11 + 8 * a0.toNat + 2 * c))) (W := (fun c => F70 (818 + c))) (k := 1) hP0 rfl (qx34.trans (congrArg F70 (by omega))) (qx35.trans (congrArg F70 (by omega))) (qf231.trans (congrArg F70 (by omega))) (by omega) rfl ex232 rfl rfl ⟨rfl, rfl⟩
                  refine zw_15 (c := 1) (L' := [(2, 69), (0, a0), (0, a1), (1, (0 + x34)), (9, 0), (1, (0 + x35)), (9, 0), (1, ((0 * x35) + (x232 * 1))), (9, 0), (1, (1 * x35)), (9, 0), (1, (0 + f231)), (9, 0), (0, (0 + 1)), (1, x34), (9, 0), (1, x35), (9, 0)]) zr_206_155 rfl (by decide) (by omega) rfl ?_
                  refine zw_42 zr_206_158 ?_
                  skip
                  refine zw_4 zr_206_38 rfl ?_
                  refine zw_push zr_206_40 ?_
                  refine zw_41_3 zr_206_41 ?_ ?_
                  · intro h233; omega
                  · intro h234
                    refine zw_7 zr_206_44 rfl ?_
                    refine zw_46r (s := 70) zr_206_45 rfl rfl rfl rfl ?_
                    refine zw_push zr_206_48 ?_
                    refine zw_push zr_206_50 ?_
                    refine zw_3 zr_206_52 rfl ?_
                    refine zw_18 zr_206_53 (by omega) ?_
                    refine zw_16 zr_206_54 (by omega) ?_
                    refine zw_push zr_206_55 ?_
                    refine zw_4 zr_206_56 rfl ?_
                    refine zw_18 zr_206_58 (by omega) ?_
                    refine zw_16 zr_206_59 (by omega) ?_
                    refine zw_48 (c := 70) (len := 826) zr_206_60 rfl rfl (by omega) (by omega) ?_
                    intro x235 ex235
                    have bx235 := ib_70_moves hI0 (k := (((10 + (8 * a0)) + (2 * (0 + 1)))).toNat) (by omega)
                    rw [← ex235] at bx235
                    have qx235 : x235 = F70 (((10 + (8 * a0)) + (2 * (0 + 1)))).toNat := by rw [← hG70]; exact ex235
                    clear ex235
                    skip
                    refine zw_36 zr_206_61 ?_
                    refine zw_14 (L' := [(2, 69), (0, a0), (0, a1), (1, (0 + x34)), (9, 0), (1, (0 + x35)), (9, 0), (1, ((0 * x35) + (x232 * 1))), (9, 0), (1, (1 * x35)), (9, 0), (1, (0 + f231)), (9, 0), (0, (0 + 1)), (1, x235), (9, 0), (1, x35), (9, 0)]) zr_206_62 (Nat.le_of_ble_eq_true rfl) rfl ?_
                    refine zw_7 zr_206_64 rfl ?_
                    refine zw_46r (s := 70) zr_206_65 rfl rfl rfl rfl ?_
                    refine zw_push zr_206_68 ?_
                    refine zw_push zr_206_70 ?_
                    refine zw_3 zr_206_72 rfl ?_
                    refine zw_18 zr_206_73 (by omega) ?_
                    refine zw_16 zr_206_74 (by omega) ?_
                    refine zw_push zr_206_75 ?_
                    refine zw_4 zr_206_76 rfl ?_
                    refine zw_18 zr_206_78 (by omega) ?_
                    refine zw_16 zr_206_79 (by omega) ?_
                    refine zw_push zr_206_80 ?_
                    refine zw_16 zr_206_81 (by omega) ?_
                    refine zw_48 (c := 70) (len := 826) zr_206_82 rfl rfl (by omega) (by omega) ?_
                    intro x236 ex236
                    have bx236 := ib_70_moves hI0 (k := ((((10 + (8 * a0)) + (2 * (0 + 1))) + 1)).toNat) (by omega)
                    rw [← ex236] at bx236
                    have qx236 : x236 = F70 ((((10 + (8 * a0)) + (2 * (0 + 1))) + 1)).toNat := by rw [← hG70]; exact ex236
                    clear ex236
                    skip
                    skip
                    refine zw_36 zr_206_83 ?_
                    refine zw_14 (L' := [(2, 69), (0, a0), (0, a1), (1, (0 + x34)), (9, 0), (1, (0 + x35)), (9, 0), (1, ((0 * x35) + (x232 * 1))), (9, 0), (1, (1 * x35)), (9, 0), (1, (0 + f231)), (9, 0), (0, (0 + 1)), (1, x235), (9, 0), (1, x236), (9, 0)]) zr_206_84 (Nat.le_of_ble_eq_true rfl) rfl ?_
                    refine zw_6 zr_206_86 rfl ?_
                    refine zw_push zr_206_88 ?_
                    refine zw_39_5 zr_206_89 zr_206_90 ?_ ?_
                    · intro h237
                      have hP2 := prs_n (R := (fun c => F70 (10 + 8 * a0.toNat + 2 * c))) (A := (fun c => F70 (11 + 8 * a0.toNat + 2 * c))) (W := (fun c => F70 (818 + c))) (k := 2) hP1 rfl (qx236.trans (congrArg F70 (by omega))) (by omega)
                      refine zw_15 (c := 1) (L' := [(2, 69), (0, a0), (0, a1), (1, (0 + x34)), (9, 0), (1, (0 + x35)), (9, 0), (1, ((0 * x35) + (x232 * 1))), (9, 0), (1, (1 * x35)), (9, 0), (1, (0 + f231)), (9, 0), (0, ((0 + 1) + 1)), (1, x235), (9, 0), (1, x236), (9, 0)]) zr_206_155 rfl (by decide) (by omega) rfl ?_
                      refine zw_42 zr_206_158 ?_
                      skip
                      refine zw_4 zr_206_38 rfl ?_
                      refine zw_push zr_206_40 ?_
                      refine zw_41_3 zr_206_41 ?_ ?_
                      · intro h238; omega
                      · intro h239
                        refine zw_7 zr_206_44 rfl ?_
                        refine zw_46r (s := 70) zr_206_45 rfl rfl rfl rfl ?_
                        refine zw_push zr_206_48 ?_
                        refine zw_push zr_206_50 ?_
                        refine zw_3 zr_206_52 rfl ?_
                        refine zw_18 zr_206_53 (by omega) ?_
                        refine zw_16 zr_206_54 (by omega) ?_
                        refine zw_push zr_206_55 ?_
                        refine zw_4 zr_206_56 rfl ?_
                        refine zw_18 zr_206_58 (by omega) ?_
                        refine zw_16 zr_206_59 (by omega) ?_
                        refine zw_48 (c := 70) (len := 826) zr_206_60 rfl rfl (by omega) (by omega) ?_
                        intro x240 ex240
                        have bx240 := ib_70_moves hI0 (k := (((10 + (8 * a0)) + (2 * ((0 + 1) + 1)))).toNat) (by omega)
                        rw [← ex240] at bx240
                        have qx240 : x240 = F70 (((10 + (8 * a0)) + (2 * ((0 + 1) + 1)))).toNat := by rw [← hG70]; exact ex240
                        clear ex240
                        skip
                        refine zw_36 zr_206_61 ?_
                        refine zw_14 (L' := [(2, 69), (0, a0), (0, a1), (1, (0 + x34)), (9, 0), (1, (0 + x35)), (9, 0), (1, ((0 * x35) + (x232 * 1))), (9, 0), (1, (1 * x35)), (9, 0), (1, (0 + f231)), (9, 0), (0, ((0 + 1) + 1)), (1, x240), (9, 0), (1, x236), (9, 0)]) zr_206_62 (Nat.le_of_ble_eq_true rfl) rfl ?_
                        refine zw_7 zr_206_64 rfl ?_
                        refine zw_46r (s := 70) zr_206_65 rfl rfl rfl rfl ?_
                        refine zw_push zr_206_68 ?_
                        refine zw_push zr_206_70 ?_
                        refine zw_3 zr_206_72 rfl ?_
                        refine zw_18 zr_206_73 (by omega) ?_
                        refine zw_16 zr_206_74 (by omega) ?_
                        refine zw_push zr_206_75 ?_
                        refine zw_4 zr_206_76 rfl ?_
                        refine zw_18 zr_206_78 (by omega) ?_
                        refine zw_16 zr_206_79 (by omega) ?_
                        refine zw_push zr_206_80 ?_
                        refine zw_16 zr_206_81 (by omega) ?_
                        refine zw_48 (c := 70) (len := 826) zr_206_82 rfl rfl (by omega) (by omega) ?_
                        intro x241 ex241
                        have bx241 := ib_70_moves hI0 (k := ((((10 + (8 * a0)) + (2 * ((0 + 1) + 1))) + 1)).toNat) (by omega)
                        rw [← ex241] at bx241
                        have qx241 : x241 = F70 ((((10 + (8 * a0)) + (2 * ((0 + 1) + 1))) + 1)).toNat := by rw [← hG70]; exact ex241
                        clear ex241
                        skip
                        skip
                        refine zw_36 zr_206_83 ?_
                        refine zw_14 (L' := [(2, 69), (0, a0), (0, a1), (1, (0 + x34)), (9, 0), (1, (0 + x35)), (9, 0), (1, ((0 * x35) + (x232 * 1))), (9, 0), (1, (1 * x35)), (9, 0), (1, (0 + f231)), (9, 0), (0, ((0 + 1) + 1)), (1, x240), (9, 0), (1, x241), (9, 0)]) zr_206_84 (Nat.le_of_ble_eq_true rfl) rfl ?_
                        refine zw_6 zr_206_86 rfl ?_
                        refine zw_push zr_206_88 ?_
                        refine zw_39_5 zr_206_89 zr_206_90 ?_ ?_
                        · intro h242
                          have hP3 := prs_n (R := (fun c => F70 (10 + 8 * a0.toNat + 2 * c))) (A := (fun c => F70 (11 + 8 * a0.toNat + 2 * c))) (W := (fun c => F70 (818 + c))) (k := 3) hP2 rfl (qx241.trans (congrArg F70 (by omega))) (by omega)
                          refine zw_15 (c := 1) (L' := [(2, 69), (0, a0), (0, a1), (1, (0 + x34)), (9, 0), (1, (0 + x35)), (9, 0), (1, ((0 * x35) + (x232 * 1))), (9, 0), (1, (1 * x35)), (9, 0), (1, (0 + f231)), (9, 0), (0, (((0 + 1) + 1) + 1)), (1, x240), (9, 0), (1, x241), (9, 0)]) zr_206_155 rfl (by decide) (by omega) rfl ?_
                          refine zw_42 zr_206_158 ?_
                          skip
                          refine zw_4 zr_206_38 rfl ?_
                          refine zw_push zr_206_40 ?_
                          refine zw_41_3 zr_206_41 ?_ ?_
                          · intro h243; omega
                          · intro h244
                            refine zw_7 zr_206_44 rfl ?_
                            refine zw_46r (s := 70) zr_206_45 rfl rfl rfl rfl ?_
                            refine zw_push zr_206_48 ?_
                            refine zw_push zr_206_50 ?_
                            refine zw_3 zr_206_52 rfl ?_
                            refine zw_18 zr_206_53 (by omega) ?_
                            refine zw_16 zr_206_54 (by omega) ?_
                            refine zw_push zr_206_55 ?_
                            refine zw_4 zr_206_56 rfl ?_
                            refine zw_18 zr_206_58 (by omega) ?_
                            refine zw_16 zr_206_59 (by omega) ?_
                            refine zw_48 (c := 70) (len := 826) zr_206_60 rfl rfl (by omega) (by omega) ?_
                            intro x245 ex245
                            have bx245 := ib_70_moves hI0 (k := (((10 + (8 * a0)) + (2 * (((0 + 1) + 1) + 1)))).toNat) (by omega)
                            rw [← ex245] at bx245
                            have qx245 : x245 = F70 (((10 + (8 * a0)) + (2 * (((0 + 1) + 1) + 1)))).toNat := by rw [← hG70]; exact ex245
                            clear ex245
                            skip
                            refine zw_36 zr_206_61 ?_
                            refine zw_14 (L' := [(2, 69), (0, a0), (0, a1), (1, (0 + x34)), (9, 0), (1, (0 + x35)), (9, 0), (1, ((0 * x35) + (x232 * 1))), (9, 0), (1, (1 * x35)), (9, 0), (1, (0 + f231)), (9, 0), (0, (((0 + 1) + 1) + 1)), (1, x245), (9, 0), (1, x241), (9, 0)]) zr_206_62 (Nat.le_of_ble_eq_true rfl) rfl ?_
                            refine zw_7 zr_206_64 rfl ?_
                            refine zw_46r (s := 70) zr_206_65 rfl rfl rfl rfl ?_
                            refine zw_push zr_206_68 ?_
                            refine zw_push zr_206_70 ?_
                            refine zw_3 zr_206_72 rfl ?_
                            refine zw_18 zr_206_73 (by omega) ?_
                            refine zw_16 zr_206_74 (by omega) ?_
                            refine zw_push zr_206_75 ?_
                            refine zw_4 zr_206_76 rfl ?_
                            refine zw_18 zr_206_78 (by omega) ?_
                            refine zw_16 zr_206_79 (by omega) ?_
                            refine zw_push zr_206_80 ?_
                            refine zw_16 zr_206_81 (by omega) ?_
                            refine zw_48 (c := 70) (len := 826) zr_206_82 rfl rfl (by omega) (by omega) ?_
                            intro x246 ex246
                            have bx246 := ib_70_moves hI0 (k := ((((10 + (8 * a0)) + (2 * (((0 + 1) + 1) + 1))) + 1)).toNat) (by omega)
                            rw [← ex246] at bx246
                            have qx246 : x246 = F70 ((((10 + (8 * a0)) + (2 * (((0 + 1) + 1) + 1))) + 1)).toNat := by rw [← hG70]; exact ex246
                            clear ex246
                            skip
                            skip
                            refine zw_36 zr_206_83 ?_
                            refine zw_14 (L' := [(2, 69), (0, a0), (0, a1), (1, (0 + x34)), (9, 0), (1, (0 + x35)), (9, 0), (1, ((0 * x35) + (x232 * 1))), (9, 0), (1, (1 * x35)), (9, 0), (1, (0 + f231)), (9, 0), (0, (((0 + 1) + 1) + 1)), (1, x245), (9, 0), (1, x246), (9, 0)]) zr_206_84 (Nat.le_of_ble_eq_true rfl) rfl ?_
                            refine zw_6 zr_206_86 rfl ?_
                            refine zw_push zr_206_88 ?_
                            refine zw_39_5 zr_206_89 zr_206_90 ?_ ?_
                            · intro h247
                              have hP4 := prs_n (R := (fun c => F70 (10 + 8 * a0.toNat + 2 * c))) (A := (fun c => F70 (11 + 8 * a0.toNat + 2 * c))) (W := (fun c => F70 (818 + c))) (k := 4) hP3 rfl (qx246.trans (congrArg F70 (by omega))) (by omega)
                              refine zw_15 (c := 1) (L' := [(2, 69), (0, a0), (0, a1), (1, (0 + x34)), (9, 0), (1, (0 + x35)), (9, 0), (1, ((0 * x35) + (x232 * 1))), (9, 0), (1, (1 * x35)), (9, 0), (1, (0 + f231)), (9, 0), (0, ((((0 + 1) + 1) + 1) + 1)), (1, x245), (9, 0), (1, x246), (9, 0)]) zr_206_155 rfl (by decide) (by omega) rfl ?_
                              refine zw_42 zr_206_158 ?_
                              skip
                              refine zw_4 zr_206_38 rfl ?_
                              refine zw_push zr_206_40 ?_
                              refine zw_41_3 zr_206_41 ?_ ?_
                              · intro h248
                                refine zw_6 zr_206_161 rfl ?_
                                refine zw_push zr_206_163 ?_
                                refine zw_39_4 zr_206_164 zr_206_165 ?_ ?_
                                · intro h249
                                  refine zw_3 zr_206_171 rfl ?_
                                  refine zw_40_4 zr_206_172 ?_ ?_
                                  · intro h250
                                    refine zw_7 zr_206_185 rfl ?_
                                    refine zw_6 zr_206_186 rfl ?_
                                    refine zw_6 zr_206_188 rfl ?_
                                    refine zw_6 zr_206_190 rfl ?_
                                    refine zw_29s (A := 99) (B := 9) zr_206_192 (by omega) (by omega) (by decide) ?_
                                    intro x251 ex251 hx251a hx251b
                                    skip
                                    refine zw_C zr_206_193 (Or.inl rfl) zm_173 rfl rfl ⟨Nat.le_of_ble_eq_true rfl, Nat.le_of_ble_eq_true rfl, Nat.le_of_ble_eq_true rfl, rfl, by decide⟩ (by omega) (th_173 (d := d - 1) (by omega) hI0 (a0 := ((0 * x35) + (x232 * 1))) (a1 := x251)      (by omega) (by omega) ) ?_
                                    rintro _ m252 ⟨rfl, hIm252, gm252, po0_m252⟩
                                    have hFm252 : zFr W_206 m0 m252 := hF0.trans gm252 rfl
                                    have km252_70_822 : m252 70 822 = g0 := (gm252 70 822 rfl).trans hg0
                                    have km252_70_818 : m252 70 818 = f231 := (gm252 70 818 rfl).trans ef231
                                    have fm252_70 : m252 70 = F70 := (funext fun k => gm252 70 k rfl).trans hG70
                                    obtain ⟨f253, ef253⟩ : ∃ v, m252 69 3 = v := ⟨_, rfl⟩
                                    have bf253 := hIm252.fl (c := 69) (k := 3) rfl
                                    rw [ef253] at bf253
                                    rw [ef253] at po0_m252
                                    obtain ⟨f254, ef254⟩ : ∃ v, m252 69 4 = v := ⟨_, rfl⟩
                                    have bf254 := hIm252.fl (c := 69) (k := 4) rfl
                                    rw [ef254] at bf254
                                    rw [ef254] at po0_m252
                                    show zW E (d) 206 196 [(2, 69), (0, a0), (0, a1), (1, (0 + x34)), (9, 0), (1, (0 + x35)), (9, 0), (1, ((0 * x35) + (x232 * 1))), (9, 0), (1, (1 * x35)), (9, 0), (1, (0 + f231)), (9, 0), (0, ((((0 + 1) + 1) + 1) + 1)), (1, x245), (9, 0), (1, x246), (9, 0)] [] m252 Q
                                    have hF := prs_t hP4 ex251 po0_m252
                                    refine zw_push zr_206_196 ?_
                                    refine zw_R zr_206_197 (by decide) zm_206 (v := (0, 1)) rfl ?_
                                    rw [← hQ]; exact ⟨_, rfl, by omega, by omega, hIm252, hFm252, by omega, by first | exact Or.inr (Or.inr ⟨by decide, ef253, ef254⟩) | exact Or.inl ⟨rfl, by omega, by rw [ef253, ef254, show F70 (10 + 8 * a0 + 2 * 0).toNat + F70 (10 + 8 * a0 + 2 * (0 + 1)).toNat + F70 (10 + 8 * a0 + 2 * ((0 + 1) + 1)).toNat + F70 (10 + 8 * a0 + 2 * (((0 + 1) + 1) + 1)).toNat = (0 + x34) by omega, show F70 (10 + 8 * a0 + 2 * 0 + 1).toNat + F70 (10 + 8 * a0 + 2 * (0 + 1) + 1).toNat + F70 (10 + 8 * a0 + 2 * ((0 + 1) + 1) + 1).toNat + F70 (10 + 8 * a0 + 2 * (((0 + 1) + 1) + 1) + 1).toNat = (0 + x35) by omega]; exact po0_m252⟩ | exact Or.inr (Or.inl ⟨rfl, by omega, by rw [ef253, ef254]; exact hF⟩)⟩
                                  · intro h257
                                    refine zw_7 zr_206_175 rfl ?_
                                    refine zw_5 zr_206_176 rfl ?_
                                    refine zw_6 zr_206_177 rfl ?_
                                    refine zw_C zr_206_179 (Or.inl rfl) zm_173 rfl rfl ⟨Nat.le_of_ble_eq_true rfl, Nat.le_of_ble_eq_true rfl, Nat.le_of_ble_eq_true rfl, rfl, by decide⟩ (by omega) (th_173 (d := d - 1) (by omega) hI0 (a0 := (0 + x34)) (a1 := (0 + x35))      (by omega) (by omega) ) ?_
                                    rintro _ m258 ⟨rfl, hIm258, gm258, po0_m258⟩
                                    have hFm258 : zFr W_206 m0 m258 := hF0.trans gm258 rfl
                                    have km258_70_822 : m258 70 822 = g0 := (gm258 70 822 rfl).trans hg0
                                    have km258_70_818 : m258 70 818 = f231 := (gm258 70 818 rfl).trans ef231
                                    have fm258_70 : m258 70 = F70 := (funext fun k => gm258 70 k rfl).trans hG70
                                    obtain ⟨f259, ef259⟩ : ∃ v, m258 69 3 = v := ⟨_, rfl⟩
                                    have bf259 := hIm258.fl (c := 69) (k := 3) rfl
                                    rw [ef259] at bf259
                                    rw [ef259] at po0_m258
                                    obtain ⟨f260, ef260⟩ : ∃ v, m258 69 4 = v := ⟨_, rfl⟩
                                    have bf260 := hIm258.fl (c := 69) (k := 4) rfl
                                    rw [ef260] at bf260
                                    rw [ef260] at po0_m258
                                    show zW E (d) 206 182 [(2, 69), (0, a0), (0, a1), (1, (0 + x34)), (9, 0), (1, (0 + x35)), (9, 0), (1, ((0 * x35) + (x232 * 1))), (9, 0), (1, (1 * x35)), (9, 0), (1, (0 + f231)), (9, 0), (0, ((((0 + 1) + 1) + 1) + 1)), (1, x245), (9, 0), (1, x246), (9, 0)] [] m258 Q
                                    skip
                                    refine zw_42 zr_206_182 ?_
                                    refine zw_push zr_206_196 ?_
                                    refine zw_R zr_206_197 (by decide) zm_206 (v := (0, 1)) rfl ?_
                                    rw [← hQ]; exact ⟨_, rfl, by omega, by omega, hIm258, hFm258, by omega, by first | exact Or.inr (Or.inr ⟨by decide, ef259, ef260⟩) | exact Or.inl ⟨rfl, by omega, by rw [ef259, ef260, show F70 (10 + 8 * a0 + 2 * 0).toNat + F70 (10 + 8 * a0 + 2 * (0 + 1)).toNat + F70 (10 + 8 * a0 + 2 * ((0 + 1) + 1)).toNat + F70 (10 + 8 * a0 + 2 * (((0 + 1) + 1) + 1)).toNat = (0 + x34) by omega, show F70 (10 + 8 * a0 + 2 * 0 + 1).toNat + F70 (10 + 8 * a0 + 2 * (0 + 1) + 1).toNat + F70 (10 + 8 * a0 + 2 * ((0 + 1) + 1) + 1).toNat + F70 (10 + 8 * a0 + 2 * (((0 + 1) + 1) + 1) + 1).toNat = (0 + x35) by omega]; exact po0_m258⟩ | exact Or.inr (Or.inl ⟨rfl, by omega, by rw [ef259, ef260]; exact hF⟩)⟩
                                · intro h263; omega
                              · intro h264; omega
                            · intro h265
                              refine zw_5 zr_206_93 rfl ?_
                              refine zw_6 zr_206_94 rfl ?_
                              refine zw_27 zr_206_96 (by omega) ?_
                              refine zw_13 (L' := [(2, 69), (0, a0), (0, a1), (1, ((0 + x34) + x245)), (9, 0), (1, (0 + x35)), (9, 0), (1, ((0 * x35) + (x232 * 1))), (9, 0), (1, (1 * x35)), (9, 0), (1, (0 + f231)), (9, 0), (0, (((0 + 1) + 1) + 1)), (1, x245), (9, 0), (1, x246), (9, 0)]) zr_206_97 (Nat.le_of_ble_eq_true rfl) rfl ?_
                              refine zw_6 zr_206_98 rfl ?_
                              refine zw_6 zr_206_100 rfl ?_
                              refine zw_27 zr_206_102 (by omega) ?_
                              refine zw_14 (L' := [(2, 69), (0, a0), (0, a1), (1, ((0 + x34) + x245)), (9, 0), (1, ((0 + x35) + x246)), (9, 0), (1, ((0 * x35) + (x232 * 1))), (9, 0), (1, (1 * x35)), (9, 0), (1, (0 + f231)), (9, 0), (0, (((0 + 1) + 1) + 1)), (1, x245), (9, 0), (1, x246), (9, 0)]) zr_206_103 (Nat.le_of_ble_eq_true rfl) rfl ?_
                              refine zw_6 zr_206_105 rfl ?_
                              refine zw_6 zr_206_107 rfl ?_
                              refine zw_29n (A := 891) (B := 99) zr_206_109 (by omega) (by omega) (by decide) ?_
                              intro x266 ex266 hx266a hx266b
                              skip
                              refine zw_7 zr_206_110 rfl ?_
                              refine zw_46r (s := 70) zr_206_111 rfl rfl rfl rfl ?_
                              refine zw_push zr_206_114 ?_
                              refine zw_4 zr_206_117 rfl ?_
                              refine zw_16 zr_206_119 (by omega) ?_
                              obtain ⟨f267, ef267⟩ : ∃ v, m0 70 821 = v := ⟨_, rfl⟩
                              have bf267 : 1 ≤ m0 70 821 ∧ m0 70 821 ≤ 9 := ib_70_weight hI0 (by omega)
                              rw [ef267] at bf267
                              refine zw_48k (c := 70) (len := 826) zr_206_120 rfl rfl (by omega) (by omega) (show ((818 + (((0 + 1) + 1) + 1)) : Int).toNat = 821 by omega) ef267 ?_
                              have qf267 : f267 = F70 ((818 + (((0 + 1) + 1) + 1)) : Int).toNat := by rw [show ((818 + (((0 + 1) + 1) + 1)) : Int).toNat = 821 by omega, ← hG70]; exact (ef267).symm
                              skip
                              refine zw_36 zr_206_121 ?_
                              refine zw_6 zr_206_122 rfl ?_
                              refine zw_29n (A := 9) (B := 99) zr_206_124 (by omega) (by omega) (by decide) ?_
                              intro x268 ex268 hx268a hx268b
                              skip
                              refine zw_6 zr_206_125 rfl ?_
                              refine zw_29n (A := 891) (B := 99) zr_206_127 (by omega) (by omega) (by decide) ?_
                              intro x269 ex269 hx269a hx269b
                              skip
                              refine zw_27 zr_206_128 (by omega) ?_
                              refine zw_14 (L' := [(2, 69), (0, a0), (0, a1), (1, ((0 + x34) + x245)), (9, 0), (1, ((0 + x35) + x246)), (9, 0), (1, (x266 + x269)), (9, 0), (1, (1 * x35)), (9, 0), (1, (0 + f231)), (9, 0), (0, (((0 + 1) + 1) + 1)), (1, x245), (9, 0), (1, x246), (9, 0)]) zr_206_129 (Nat.le_of_ble_eq_true rfl) rfl ?_
                              refine zw_6 zr_206_131 rfl ?_
                              refine zw_6 zr_206_133 rfl ?_
                              refine zw_29s (A := 99) (B := 99) zr_206_135 (by omega) (by omega) (by decide) ?_
                              intro x270 ex270 hx270a hx270b
                              skip
                              skip
                              refine zw_14 (L' := [(2, 69), (0, a0), (0, a1), (1, ((0 + x34) + x245)), (9, 0), (1, ((0 + x35) + x246)), (9, 0), (1, (x266 + x269)), (9, 0), (1, x270), (9, 0), (1, (0 + f231)), (9, 0), (0, (((0 + 1) + 1) + 1)), (1, x245), (9, 0), (1, x246), (9, 0)]) zr_206_136 (Nat.le_of_ble_eq_true rfl) rfl ?_
                              refine zw_6 zr_206_138 rfl ?_
                              refine zw_7 zr_206_140 rfl ?_
                              refine zw_46r (s := 70) zr_206_141 rfl rfl rfl rfl ?_
                              refine zw_push zr_206_144 ?_
                              refine zw_4 zr_206_147 rfl ?_
                              refine zw_16 zr_206_149 (by omega) ?_
                              refine zw_48k (c := 70) (len := 826) zr_206_150 rfl rfl (by omega) (by omega) (show ((818 + (((0 + 1) + 1) + 1)) : Int).toNat = 821 by omega) ef267 ?_
                              have qf267 : f267 = F70 ((818 + (((0 + 1) + 1) + 1)) : Int).toNat := by rw [show ((818 + (((0 + 1) + 1) + 1)) : Int).toNat = 821 by omega, ← hG70]; exact (ef267).symm
                              refine zw_36 zr_206_151 ?_
                              refine zw_27 zr_206_152 (by omega) ?_
                              refine zw_14 (L' := [(2, 69), (0, a0), (0, a1), (1, ((0 + x34) + x245)), (9, 0), (1, ((0 + x35) + x246)), (9, 0), (1, (x266 + x269)), (9, 0), (1, x270), (9, 0), (1, ((0 + f231) + f267)), (9, 0), (0, (((0 + 1) + 1) + 1)), (1, x245), (9, 0), (1, x246), (9, 0)]) zr_206_153 (Nat.le_of_ble_eq_true rfl) rfl ?_
                              have hP4 := prs_r (R := (fun c => F70 (10 + 8 * a0.toNat + 2 * c))) (A := (fun c => F70 (11 + 8 * a0.toNat + 2 * c))) (W := (fun c => F70 (818 + c))) (k := 4) hP3 rfl (qx245.trans (congrArg F70 (by omega))) (qx246.trans (congrArg F70 (by omega))) (qf267.trans (congrArg F70 (by omega))) (by omega) ex266 ex268 ex269 ex270 ⟨rfl, rfl⟩
                              refine zw_15 (c := 1) (L' := [(2, 69), (0, a0), (0, a1), (1, ((0 + x34) + x245)), (9, 0), (1, ((0 + x35) + x246)), (9, 0), (1, (x266 + x269)), (9, 0), (1, x270), (9, 0), (1, ((0 + f231) + f267)), (9, 0), (0, ((((0 + 1) + 1) + 1) + 1)), (1, x245), (9, 0), (1, x246), (9, 0)]) zr_206_155 rfl (by decide) (by omega) rfl ?_
                              refine zw_42 zr_206_158 ?_
                              skip
                              refine zw_4 zr_206_38 rfl ?_
                              refine zw_push zr_206_40 ?_
                              refine zw_41_3 zr_206_41 ?_ ?_
                              · intro h271
                                refine zw_6 zr_206_161 rfl ?_
                                refine zw_push zr_206_163 ?_
                                refine zw_39_4 zr_206_164 zr_206_165 ?_ ?_
                                · intro h272
                                  refine zw_3 zr_206_171 rfl ?_
                                  refine zw_40_4 zr_206_172 ?_ ?_
                                  · intro h273
                                    refine zw_7 zr_206_185 rfl ?_
                                    refine zw_6 zr_206_186 rfl ?_
                                    refine zw_6 zr_206_188 rfl ?_
                                    refine zw_6 zr_206_190 rfl ?_
                                    refine zw_29s (A := 9801) (B := 18) zr_206_192 (by omega) (by omega) (by decide) ?_
                                    intro x274 ex274 hx274a hx274b
                                    skip
                                    refine zw_C zr_206_193 (Or.inl rfl) zm_173 rfl rfl ⟨Nat.le_of_ble_eq_true rfl, Nat.le_of_ble_eq_true rfl, Nat.le_of_ble_eq_true rfl, rfl, by decide⟩ (by omega) (th_173 (d := d - 1) (by omega) hI0 (a0 := (x266 + x269)) (a1 := x274)      (by omega) (by omega) ) ?_
                                    rintro _ m275 ⟨rfl, hIm275, gm275, po0_m275⟩
                                    have hFm275 : zFr W_206 m0 m275 := hF0.trans gm275 rfl
                                    have km275_70_822 : m275 70 822 = g0 := (gm275 70 822 rfl).trans hg0
                                    have km275_70_818 : m275 70 818 = f231 := (gm275 70 818 rfl).trans ef231
                                    have km275_70_821 : m275 70 821 = f267 := (gm275 70 821 rfl).trans ef267
                                    have fm275_70 : m275 70 = F70 := (funext fun k => gm275 70 k rfl).trans hG70
                                    obtain ⟨f276, ef276⟩ : ∃ v, m275 69 3 = v := ⟨_, rfl⟩
                                    have bf276 := hIm275.fl (c := 69) (k := 3) rfl
                                    rw [ef276] at bf276
                                    rw [ef276] at po0_m275
                                    obtain ⟨f277, ef277⟩ : ∃ v, m275 69 4 = v := ⟨_, rfl⟩
                                    have bf277 := hIm275.fl (c := 69) (k := 4) rfl
                                    rw [ef277] at bf277
                                    rw [ef277] at po0_m275
                                    show zW E (d) 206 196 [(2, 69), (0, a0), (0, a1), (1, ((0 + x34) + x245)), (9, 0), (1, ((0 + x35) + x246)), (9, 0), (1, (x266 + x269)), (9, 0), (1, x270), (9, 0), (1, ((0 + f231) + f267)), (9, 0), (0, ((((0 + 1) + 1) + 1) + 1)), (1, x245), (9, 0), (1, x246), (9, 0)] [] m275 Q
                                    have hF := prs_t hP4 ex274 po0_m275
                                    refine zw_push zr_206_196 ?_
                                    refine zw_R zr_206_197 (by decide) zm_206 (v := (0, 1)) rfl ?_
                                    rw [← hQ]; exact ⟨_, rfl, by omega, by omega, hIm275, hFm275, by omega, by first | exact Or.inr (Or.inr ⟨by decide, ef276, ef277⟩) | exact Or.inl ⟨rfl, by omega, by rw [ef276, ef277, show F70 (10 + 8 * a0 + 2 * 0).toNat + F70 (10 + 8 * a0 + 2 * (0 + 1)).toNat + F70 (10 + 8 * a0 + 2 * ((0 + 1) + 1)).toNat + F70 (10 + 8 * a0 + 2 * (((0 + 1) + 1) + 1)).toNat = ((0 + x34) + x245) by omega, show F70 (10 + 8 * a0 + 2 * 0 + 1).toNat + F70 (10 + 8 * a0 + 2 * (0 + 1) + 1).toNat + F70 (10 + 8 * a0 + 2 * ((0 + 1) + 1) + 1).toNat + F70 (10 + 8 * a0 + 2 * (((0 + 1) + 1) + 1) + 1).toNat = ((0 + x35) + x246) by omega]; exact po0_m275⟩ | exact Or.inr (Or.inl ⟨rfl, by omega, by rw [ef276, ef277]; exact hF⟩)⟩
                                  · intro h280
                                    refine zw_7 zr_206_175 rfl ?_
                                    refine zw_5 zr_206_176 rfl ?_
                                    refine zw_6 zr_206_177 rfl ?_
                                    refine zw_C zr_206_179 (Or.inl rfl) zm_173 rfl rfl ⟨Nat.le_of_ble_eq_true rfl, Nat.le_of_ble_eq_true rfl, Nat.le_of_ble_eq_true rfl, rfl, by decide⟩ (by omega) (th_173 (d := d - 1) (by omega) hI0 (a0 := ((0 + x34) + x245)) (a1 := ((0 + x35) + x246))      (by omega) (by omega) ) ?_
                                    rintro _ m281 ⟨rfl, hIm281, gm281, po0_m281⟩
                                    have hFm281 : zFr W_206 m0 m281 := hF0.trans gm281 rfl
                                    have km281_70_822 : m281 70 822 = g0 := (gm281 70 822 rfl).trans hg0
                                    have km281_70_818 : m281 70 818 = f231 := (gm281 70 818 rfl).trans ef231
                                    have km281_70_821 : m281 70 821 = f267 := (gm281 70 821 rfl).trans ef267
                                    have fm281_70 : m281 70 = F70 := (funext fun k => gm281 70 k rfl).trans hG70
                                    obtain ⟨f282, ef282⟩ : ∃ v, m281 69 3 = v := ⟨_, rfl⟩
                                    have bf282 := hIm281.fl (c := 69) (k := 3) rfl
                                    rw [ef282] at bf282
                                    rw [ef282] at po0_m281
                                    obtain ⟨f283, ef283⟩ : ∃ v, m281 69 4 = v := ⟨_, rfl⟩
                                    have bf283 := hIm281.fl (c := 69) (k := 4) rfl
                                    rw [ef283] at bf283
                                    rw [ef283] at po0_m281
                                    show zW E (d) 206 182 [(2, 69), (0, a0), (0, a1), (1, ((0 + x34) + x245)), (9, 0), (1, ((0 + x35) + x246)), (9, 0), (1, (x266 + x269)), (9, 0), (1, x270), (9, 0), (1, ((0 + f231) + f267)), (9, 0), (0, ((((0 + 1) + 1) + 1) + 1)), (1, x245), (9, 0), (1, x246), (9, 0)] [] m281 Q
                                    skip
                                    refine zw_42 zr_206_182 ?_
                                    refine zw_push zr_206_196 ?_
                                    refine zw_R zr_206_197 (by decide) zm_206 (v := (0, 1)) rfl ?_
                                    rw [← hQ]; exact ⟨_, rfl, by omega, by omega, hIm281, hFm281, by omega, by first | exact Or.inr (Or.inr ⟨by decide, ef282, ef283⟩) | exact Or.inl ⟨rfl, by omega, by rw [ef282, ef283, show F70 (10 + 8 * a0 + 2 * 0).toNat + F70 (10 + 8 * a0 + 2 * (0 + 1)).toNat + F70 (10 + 8 * a0 + 2 * ((0 + 1) + 1)).toNat + F70 (10 + 8 * a0 + 2 * (((0 + 1) + 1) + 1)).toNat = ((0 + x34) + x245) by omega, show F70 (10 + 8 * a0 + 2 * 0 + 1).toNat + F70 (10 + 8 * a0 + 2 * (0 + 1) + 1).toNat + F70 (10 + 8 * a0 + 2 * ((0 + 1) + 1) + 1).toNat + F70 (10 + 8 * a0 + 2 * (((0 + 1) + 1) + 1) + 1).toNat = ((0 + x35) + x246) by omega]; exact po0_m281⟩ | exact Or.inr (Or.inl ⟨rfl, by omega, by rw [ef282, ef283]; exact hF⟩)⟩
                                · intro h286; omega
                              · intro h287; omega
                        · intro h288
                          refine zw_5 zr_206_93 rfl ?_
                          refine zw_6 zr_206_94 rfl ?_
                          refine zw_27 zr_206_96 (by omega) ?_
                          refine zw_13 (L' := [(2, 69), (0, a0), (0, a1), (1, ((0 + x34) + x240)), (9, 0), (1, (0 + x35)), (9, 0), (1, ((0 * x35) + (x232 * 1))), (9, 0), (1, (1 * x35)), (9, 0), (1, (0 + f231)), (9, 0), (0, ((0 + 1) + 1)), (1, x240), (9, 0), (1, x241), (9, 0)]) zr_206_97 (Nat.le_of_ble_eq_true rfl) rfl ?_
                          refine zw_6 zr_206_98 rfl ?_
                          refine zw_6 zr_206_100 rfl ?_
                          refine zw_27 zr_206_102 (by omega) ?_
                          refine zw_14 (L' := [(2, 69), (0, a0), (0, a1), (1, ((0 + x34) + x240)), (9, 0), (1, ((0 + x35) + x241)), (9, 0), (1, ((0 * x35) + (x232 * 1))), (9, 0), (1, (1 * x35)), (9, 0), (1, (0 + f231)), (9, 0), (0, ((0 + 1) + 1)), (1, x240), (9, 0), (1, x241), (9, 0)]) zr_206_103 (Nat.le_of_ble_eq_true rfl) rfl ?_
                          refine zw_6 zr_206_105 rfl ?_
                          refine zw_6 zr_206_107 rfl ?_
                          refine zw_29n (A := 891) (B := 99) zr_206_109 (by omega) (by omega) (by decide) ?_
                          intro x289 ex289 hx289a hx289b
                          skip
                          refine zw_7 zr_206_110 rfl ?_
                          refine zw_46r (s := 70) zr_206_111 rfl rfl rfl rfl ?_
                          refine zw_push zr_206_114 ?_
                          refine zw_4 zr_206_117 rfl ?_
                          refine zw_16 zr_206_119 (by omega) ?_
                          obtain ⟨f290, ef290⟩ : ∃ v, m0 70 820 = v := ⟨_, rfl⟩
                          have bf290 : 1 ≤ m0 70 820 ∧ m0 70 820 ≤ 9 := ib_70_weight hI0 (by omega)
                          rw [ef290] at bf290
                          refine zw_48k (c := 70) (len := 826) zr_206_120 rfl rfl (by omega) (by omega) (show ((818 + ((0 + 1) + 1)) : Int).toNat = 820 by omega) ef290 ?_
                          have qf290 : f290 = F70 ((818 + ((0 + 1) + 1)) : Int).toNat := by rw [show ((818 + ((0 + 1) + 1)) : Int).toNat = 820 by omega, ← hG70]; exact (ef290).symm
                          skip
                          refine zw_36 zr_206_121 ?_
                          refine zw_6 zr_206_122 rfl ?_
                          refine zw_29n (A := 9) (B := 99) zr_206_124 (by omega) (by omega) (by decide) ?_
                          intro x291 ex291 hx291a hx291b
                          skip
                          refine zw_6 zr_206_125 rfl ?_
                          refine zw_29n (A := 891) (B := 99) zr_206_127 (by omega) (by omega) (by decide) ?_
                          intro x292 ex292 hx292a hx292b
                          skip
                          refine zw_27 zr_206_128 (by omega) ?_
                          refine zw_14 (L' := [(2, 69), (0, a0), (0, a1), (1, ((0 + x34) + x240)), (9, 0), (1, ((0 + x35) + x241)), (9, 0), (1, (x289 + x292)), (9, 0), (1, (1 * x35)), (9, 0), (1, (0 + f231)), (9, 0), (0, ((0 + 1) + 1)), (1, x240), (9, 0), (1, x241), (9, 0)]) zr_206_129 (Nat.le_of_ble_eq_true rfl) rfl ?_
                          refine zw_6 zr_206_131 rfl ?_
                          refine zw_6 zr_206_133 rfl ?_
                          refine zw_29s (A := 99) (B := 99) zr_206_135 (by omega) (by omega) (by decide) ?_
                          intro x293 ex293 hx293a hx293b
                          skip
                          skip
                          refine zw_14 (L' := [(2, 69), (0, a0), (0, a1), (1, ((0 + x34) + x240)), (9, 0), (1, ((0 + x35) + x241)), (9, 0), (1, (x289 + x292)), (9, 0), (1, x293), (9, 0), (1, (0 + f231)), (9, 0), (0, ((0 + 1) + 1)), (1, x240), (9, 0), (1, x241), (9, 0)]) zr_206_136 (Nat.le_of_ble_eq_true rfl) rfl ?_
                          refine zw_6 zr_206_138 rfl ?_
                          refine zw_7 zr_206_140 rfl ?_
                          refine zw_46r (s := 70) zr_206_141 rfl rfl rfl rfl ?_
                          refine zw_push zr_206_144 ?_
                          refine zw_4 zr_206_147 rfl ?_
                          refine zw_16 zr_206_149 (by omega) ?_
                          refine zw_48k (c := 70) (len := 826) zr_206_150 rfl rfl (by omega) (by omega) (show ((818 + ((0 + 1) + 1)) : Int).toNat = 820 by omega) ef290 ?_
                          have qf290 : f290 = F70 ((818 + ((0 + 1) + 1)) : Int).toNat := by rw [show ((818 + ((0 + 1) + 1)) : Int).toNat = 820 by omega, ← hG70]; exact (ef290).symm
                          refine zw_36 zr_206_151 ?_
                          refine zw_27 zr_206_152 (by omega) ?_
                          refine zw_14 (L' := [(2, 69), (0, a0), (0, a1), (1, ((0 + x34) + x240)), (9, 0), (1, ((0 + x35) + x241)), (9, 0), (1, (x289 + x292)), (9, 0), (1, x293), (9, 0), (1, ((0 + f231) + f290)), (9, 0), (0, ((0 + 1) + 1)), (1, x240), (9, 0), (1, x241), (9, 0)]) zr_206_153 (Nat.le_of_ble_eq_true rfl) rfl ?_
                          have hP3 := prs_r (R := (fun c => F70 (10 + 8 * a0.toNat + 2 * c))) (A := (fun c => F70 (11 + 8 * a0.toNat + 2 * c))) (W := (fun c => F70 (818 + c))) (k := 3) hP2 rfl (qx240.trans (congrArg F70 (by omega))) (qx241.trans (congrArg F70 (by omega))) (qf290.trans (congrArg F70 (by omega))) (by omega) ex289 ex291 ex292 ex293 ⟨rfl, rfl⟩
                          refine zw_15 (c := 1) (L' := [(2, 69), (0, a0), (0, a1), (1, ((0 + x34) + x240)), (9, 0), (1, ((0 + x35) + x241)), (9, 0), (1, (x289 + x292)), (9, 0), (1, x293), (9, 0), (1, ((0 + f231) + f290)), (9, 0), (0, (((0 + 1) + 1) + 1)), (1, x240), (9, 0), (1, x241), (9, 0)]) zr_206_155 rfl (by decide) (by omega) rfl ?_
                          refine zw_42 zr_206_158 ?_
                          skip
                          refine zw_4 zr_206_38 rfl ?_
                          refine zw_push zr_206_40 ?_
                          refine zw_41_3 zr_206_41 ?_ ?_
                          · intro h294; omega
                          · intro h295
                            refine zw_7 zr_206_44 rfl ?_
                            refine zw_46r (s := 70) zr_206_45 rfl rfl rfl rfl ?_
                            refine zw_push zr_206_48 ?_
                            refine zw_push zr_206_50 ?_
                            refine zw_3 zr_206_52 rfl ?_
                            refine zw_18 zr_206_53 (by omega) ?_
                            refine zw_16 zr_206_54 (by omega) ?_
                            refine zw_push zr_206_55 ?_
                            refine zw_4 zr_206_56 rfl ?_
                            refine zw_18 zr_206_58 (by omega) ?_
                            refine zw_16 zr_206_59 (by omega) ?_
                            refine zw_48 (c := 70) (len := 826) zr_206_60 rfl rfl (by omega) (by omega) ?_
                            intro x296 ex296
                            have bx296 := ib_70_moves hI0 (k := (((10 + (8 * a0)) + (2 * (((0 + 1) + 1) + 1)))).toNat) (by omega)
                            rw [← ex296] at bx296
                            have qx296 : x296 = F70 (((10 + (8 * a0)) + (2 * (((0 + 1) + 1) + 1)))).toNat := by rw [← hG70]; exact ex296
                            clear ex296
                            skip
                            refine zw_36 zr_206_61 ?_
                            refine zw_14 (L' := [(2, 69), (0, a0), (0, a1), (1, ((0 + x34) + x240)), (9, 0), (1, ((0 + x35) + x241)), (9, 0), (1, (x289 + x292)), (9, 0), (1, x293), (9, 0), (1, ((0 + f231) + f290)), (9, 0), (0, (((0 + 1) + 1) + 1)), (1, x296), (9, 0), (1, x241), (9, 0)]) zr_206_62 (Nat.le_of_ble_eq_true rfl) rfl ?_
                            refine zw_7 zr_206_64 rfl ?_
                            refine zw_46r (s := 70) zr_206_65 rfl rfl rfl rfl ?_
                            refine zw_push zr_206_68 ?_
                            refine zw_push zr_206_70 ?_
                            refine zw_3 zr_206_72 rfl ?_
                            refine zw_18 zr_206_73 (by omega) ?_
                            refine zw_16 zr_206_74 (by omega) ?_
                            refine zw_push zr_206_75 ?_
                            refine zw_4 zr_206_76 rfl ?_
                            refine zw_18 zr_206_78 (by omega) ?_
                            refine zw_16 zr_206_79 (by omega) ?_
                            refine zw_push zr_206_80 ?_
                            refine zw_16 zr_206_81 (by omega) ?_
                            refine zw_48 (c := 70) (len := 826) zr_206_82 rfl rfl (by omega) (by omega) ?_
                            intro x297 ex297
                            have bx297 := ib_70_moves hI0 (k := ((((10 + (8 * a0)) + (2 * (((0 + 1) + 1) + 1))) + 1)).toNat) (by omega)
                            rw [← ex297] at bx297
                            have qx297 : x297 = F70 ((((10 + (8 * a0)) + (2 * (((0 + 1) + 1) + 1))) + 1)).toNat := by rw [← hG70]; exact ex297
                            clear ex297
                            skip
                            skip
                            refine zw_36 zr_206_83 ?_
                            refine zw_14 (L' := [(2, 69), (0, a0), (0, a1), (1, ((0 + x34) + x240)), (9, 0), (1, ((0 + x35) + x241)), (9, 0), (1, (x289 + x292)), (9, 0), (1, x293), (9, 0), (1, ((0 + f231) + f290)), (9, 0), (0, (((0 + 1) + 1) + 1)), (1, x296), (9, 0), (1, x297), (9, 0)]) zr_206_84 (Nat.le_of_ble_eq_true rfl) rfl ?_
                            refine zw_6 zr_206_86 rfl ?_
                            refine zw_push zr_206_88 ?_
                            refine zw_39_5 zr_206_89 zr_206_90 ?_ ?_
                            · intro h298
                              have hP4 := prs_n (R := (fun c => F70 (10 + 8 * a0.toNat + 2 * c))) (A := (fun c => F70 (11 + 8 * a0.toNat + 2 * c))) (W := (fun c => F70 (818 + c))) (k := 4) hP3 rfl (qx297.trans (congrArg F70 (by omega))) (by omega)
                              refine zw_15 (c := 1) (L' := [(2, 69), (0, a0), (0, a1), (1, ((0 + x34) + x240)), (9, 0), (1, ((0 + x35) + x241)), (9, 0), (1, (x289 + x292)), (9, 0), (1, x293), (9, 0), (1, ((0 + f231) + f290)), (9, 0), (0, ((((0 + 1) + 1) + 1) + 1)), (1, x296), (9, 0), (1, x297), (9, 0)]) zr_206_155 rfl (by decide) (by omega) rfl ?_
                              refine zw_42 zr_206_158 ?_
                              skip
                              refine zw_4 zr_206_38 rfl ?_
                              refine zw_push zr_206_40 ?_
                              refine zw_41_3 zr_206_41 ?_ ?_
                              · intro h299
                                refine zw_6 zr_206_161 rfl ?_
                                refine zw_push zr_206_163 ?_
                                refine zw_39_4 zr_206_164 zr_206_165 ?_ ?_
                                · intro h300
                                  refine zw_3 zr_206_171 rfl ?_
                                  refine zw_40_4 zr_206_172 ?_ ?_
                                  · intro h301
                                    refine zw_7 zr_206_185 rfl ?_
                                    refine zw_6 zr_206_186 rfl ?_
                                    refine zw_6 zr_206_188 rfl ?_
                                    refine zw_6 zr_206_190 rfl ?_
                                    refine zw_29s (A := 9801) (B := 18) zr_206_192 (by omega) (by omega) (by decide) ?_
                                    intro x302 ex302 hx302a hx302b
                                    skip
                                    refine zw_C zr_206_193 (Or.inl rfl) zm_173 rfl rfl ⟨Nat.le_of_ble_eq_true rfl, Nat.le_of_ble_eq_true rfl, Nat.le_of_ble_eq_true rfl, rfl, by decide⟩ (by omega) (th_173 (d := d - 1) (by omega) hI0 (a0 := (x289 + x292)) (a1 := x302)      (by omega) (by omega) ) ?_
                                    rintro _ m303 ⟨rfl, hIm303, gm303, po0_m303⟩
                                    have hFm303 : zFr W_206 m0 m303 := hF0.trans gm303 rfl
                                    have km303_70_822 : m303 70 822 = g0 := (gm303 70 822 rfl).trans hg0
                                    have km303_70_818 : m303 70 818 = f231 := (gm303 70 818 rfl).trans ef231
                                    have km303_70_820 : m303 70 820 = f290 := (gm303 70 820 rfl).trans ef290
                                    have fm303_70 : m303 70 = F70 := (funext fun k => gm303 70 k rfl).trans hG70
                                    obtain ⟨f304, ef304⟩ : ∃ v, m303 69 3 = v := ⟨_, rfl⟩
                                    have bf304 := hIm303.fl (c := 69) (k := 3) rfl
                                    rw [ef304] at bf304
                                    rw [ef304] at po0_m303
                                    obtain ⟨f305, ef305⟩ : ∃ v, m303 69 4 = v := ⟨_, rfl⟩
                                    have bf305 := hIm303.fl (c := 69) (k := 4) rfl
                                    rw [ef305] at bf305
                                    rw [ef305] at po0_m303
                                    show zW E (d) 206 196 [(2, 69), (0, a0), (0, a1), (1, ((0 + x34) + x240)), (9, 0), (1, ((0 + x35) + x241)), (9, 0), (1, (x289 + x292)), (9, 0), (1, x293), (9, 0), (1, ((0 + f231) + f290)), (9, 0), (0, ((((0 + 1) + 1) + 1) + 1)), (1, x296), (9, 0), (1, x297), (9, 0)] [] m303 Q
                                    have hF := prs_t hP4 ex302 po0_m303
                                    refine zw_push zr_206_196 ?_
                                    refine zw_R zr_206_197 (by decide) zm_206 (v := (0, 1)) rfl ?_
                                    rw [← hQ]; exact ⟨_, rfl, by omega, by omega, hIm303, hFm303, by omega, by first | exact Or.inr (Or.inr ⟨by decide, ef304, ef305⟩) | exact Or.inl ⟨rfl, by omega, by rw [ef304, ef305, show F70 (10 + 8 * a0 + 2 * 0).toNat + F70 (10 + 8 * a0 + 2 * (0 + 1)).toNat + F70 (10 + 8 * a0 + 2 * ((0 + 1) + 1)).toNat + F70 (10 + 8 * a0 + 2 * (((0 + 1) + 1) + 1)).toNat = ((0 + x34) + x240) by omega, show F70 (10 + 8 * a0 + 2 * 0 + 1).toNat + F70 (10 + 8 * a0 + 2 * (0 + 1) + 1).toNat + F70 (10 + 8 * a0 + 2 * ((0 + 1) + 1) + 1).toNat + F70 (10 + 8 * a0 + 2 * (((0 + 1) + 1) + 1) + 1).toNat = ((0 + x35) + x241) by omega]; exact po0_m303⟩ | exact Or.inr (Or.inl ⟨rfl, by omega, by rw [ef304, ef305]; exact hF⟩)⟩
                                  · intro h308
                                    refine zw_7 zr_206_175 rfl ?_
                                    refine zw_5 zr_206_176 rfl ?_
                                    refine zw_6 zr_206_177 rfl ?_
                                    refine zw_C zr_206_179 (Or.inl rfl) zm_173 rfl rfl ⟨Nat.le_of_ble_eq_true rfl, Nat.le_of_ble_eq_true rfl, Nat.le_of_ble_eq_true rfl, rfl, by decide⟩ (by omega) (th_173 (d := d - 1) (by omega) hI0 (a0 := ((0 + x34) + x240)) (a1 := ((0 + x35) + x241))      (by omega) (by omega) ) ?_
                                    rintro _ m309 ⟨rfl, hIm309, gm309, po0_m309⟩
                                    have hFm309 : zFr W_206 m0 m309 := hF0.trans gm309 rfl
                                    have km309_70_822 : m309 70 822 = g0 := (gm309 70 822 rfl).trans hg0
                                    have km309_70_818 : m309 70 818 = f231 := (gm309 70 818 rfl).trans ef231
                                    have km309_70_820 : m309 70 820 = f290 := (gm309 70 820 rfl).trans ef290
                                    have fm309_70 : m309 70 = F70 := (funext fun k => gm309 70 k rfl).trans hG70
                                    obtain ⟨f310, ef310⟩ : ∃ v, m309 69 3 = v := ⟨_, rfl⟩
                                    have bf310 := hIm309.fl (c := 69) (k := 3) rfl
                                    rw [ef310] at bf310
                                    rw [ef310] at po0_m309
                                    obtain ⟨f311, ef311⟩ : ∃ v, m309 69 4 = v := ⟨_, rfl⟩
                                    have bf311 := hIm309.fl (c := 69) (k := 4) rfl
                                    rw [ef311] at bf311
                                    rw [ef311] at po0_m309
                                    show zW E (d) 206 182 [(2, 69), (0, a0), (0, a1), (1, ((0 + x34) + x240)), (9, 0), (1, ((0 + x35) + x241)), (9, 0), (1, (x289 + x292)), (9, 0), (1, x293), (9, 0), (1, ((0 + f231) + f290)), (9, 0), (0, ((((0 + 1) + 1) + 1) + 1)), (1, x296), (9, 0), (1, x297), (9, 0)] [] m309 Q
                                    skip
                                    refine zw_42 zr_206_182 ?_
                                    refine zw_push zr_206_196 ?_
                                    refine zw_R zr_206_197 (by decide) zm_206 (v := (0, 1)) rfl ?_
                                    rw [← hQ]; exact ⟨_, rfl, by omega, by omega, hIm309, hFm309, by omega, by first | exact Or.inr (Or.inr ⟨by decide, ef310, ef311⟩) | exact Or.inl ⟨rfl, by omega, by rw [ef310, ef311, show F70 (10 + 8 * a0 + 2 * 0).toNat + F70 (10 + 8 * a0 + 2 * (0 + 1)).toNat + F70 (10 + 8 * a0 + 2 * ((0 + 1) + 1)).toNat + F70 (10 + 8 * a0 + 2 * (((0 + 1) + 1) + 1)).toNat = ((0 + x34) + x240) by omega, show F70 (10 + 8 * a0 + 2 * 0 + 1).toNat + F70 (10 + 8 * a0 + 2 * (0 + 1) + 1).toNat + F70 (10 + 8 * a0 + 2 * ((0 + 1) + 1) + 1).toNat + F70 (10 + 8 * a0 + 2 * (((0 + 1) + 1) + 1) + 1).toNat = ((0 + x35) + x241) by omega]; exact po0_m309⟩ | exact Or.inr (Or.inl ⟨rfl, by omega, by rw [ef310, ef311]; exact hF⟩)⟩
                                · intro h314; omega
                              · intro h315; omega
                            · intro h316
                              refine zw_5 zr_206_93 rfl ?_
                              refine zw_6 zr_206_94 rfl ?_
                              refine zw_27 zr_206_96 (by omega) ?_
                              refine zw_13 (L' := [(2, 69), (0, a0), (0, a1), (1, (((0 + x34) + x240) + x296)), (9, 0), (1, ((0 + x35) + x241)), (9, 0), (1, (x289 + x292)), (9, 0), (1, x293), (9, 0), (1, ((0 + f231) + f290)), (9, 0), (0, (((0 + 1) + 1) + 1)), (1, x296), (9, 0), (1, x297), (9, 0)]) zr_206_97 (Nat.le_of_ble_eq_true rfl) rfl ?_
                              refine zw_6 zr_206_98 rfl ?_
                              refine zw_6 zr_206_100 rfl ?_
                              refine zw_27 zr_206_102 (by omega) ?_
                              refine zw_14 (L' := [(2, 69), (0, a0), (0, a1), (1, (((0 + x34) + x240) + x296)), (9, 0), (1, (((0 + x35) + x241) + x297)), (9, 0), (1, (x289 + x292)), (9, 0), (1, x293), (9, 0), (1, ((0 + f231) + f290)), (9, 0), (0, (((0 + 1) + 1) + 1)), (1, x296), (9, 0), (1, x297), (9, 0)]) zr_206_103 (Nat.le_of_ble_eq_true rfl) rfl ?_
                              refine zw_6 zr_206_105 rfl ?_
                              refine zw_6 zr_206_107 rfl ?_
                              refine zw_29n (A := 176418) (B := 99) zr_206_109 (by omega) (by omega) (by decide) ?_
                              intro x317 ex317 hx317a hx317b
                              skip
                              refine zw_7 zr_206_110 rfl ?_
                              refine zw_46r (s := 70) zr_206_111 rfl rfl rfl rfl ?_
                              refine zw_push zr_206_114 ?_
                              refine zw_4 zr_206_117 rfl ?_
                              refine zw_16 zr_206_119 (by omega) ?_
                              obtain ⟨f318, ef318⟩ : ∃ v, m0 70 821 = v := ⟨_, rfl⟩
                              have bf318 : 1 ≤ m0 70 821 ∧ m0 70 821 ≤ 9 := ib_70_weight hI0 (by omega)
                              rw [ef318] at bf318
                              refine zw_48k (c := 70) (len := 826) zr_206_120 rfl rfl (by omega) (by omega) (show ((818 + (((0 + 1) + 1) + 1)) : Int).toNat = 821 by omega) ef318 ?_
                              have qf318 : f318 = F70 ((818 + (((0 + 1) + 1) + 1)) : Int).toNat := by rw [show ((818 + (((0 + 1) + 1) + 1)) : Int).toNat = 821 by omega, ← hG70]; exact (ef318).symm
                              skip
                              refine zw_36 zr_206_121 ?_
                              refine zw_6 zr_206_122 rfl ?_
                              refine zw_29n (A := 9) (B := 99) zr_206_124 (by omega) (by omega) (by decide) ?_
                              intro x319 ex319 hx319a hx319b
                              skip
                              refine zw_6 zr_206_125 rfl ?_
                              refine zw_29n (A := 891) (B := 9801) zr_206_127 (by omega) (by omega) (by decide) ?_
                              intro x320 ex320 hx320a hx320b
                              skip
                              refine zw_27 zr_206_128 (by omega) ?_
                              refine zw_14 (L' := [(2, 69), (0, a0), (0, a1), (1, (((0 + x34) + x240) + x296)), (9, 0), (1, (((0 + x35) + x241) + x297)), (9, 0), (1, (x317 + x320)), (9, 0), (1, x293), (9, 0), (1, ((0 + f231) + f290)), (9, 0), (0, (((0 + 1) + 1) + 1)), (1, x296), (9, 0), (1, x297), (9, 0)]) zr_206_129 (Nat.le_of_ble_eq_true rfl) rfl ?_
                              refine zw_6 zr_206_131 rfl ?_
                              refine zw_6 zr_206_133 rfl ?_
                              refine zw_29s (A := 9801) (B := 99) zr_206_135 (by omega) (by omega) (by decide) ?_
                              intro x321 ex321 hx321a hx321b
                              skip
                              skip
                              refine zw_14 (L' := [(2, 69), (0, a0), (0, a1), (1, (((0 + x34) + x240) + x296)), (9, 0), (1, (((0 + x35) + x241) + x297)), (9, 0), (1, (x317 + x320)), (9, 0), (1, x321), (9, 0), (1, ((0 + f231) + f290)), (9, 0), (0, (((0 + 1) + 1) + 1)), (1, x296), (9, 0), (1, x297), (9, 0)]) zr_206_136 (Nat.le_of_ble_eq_true rfl) rfl ?_
                              refine zw_6 zr_206_138 rfl ?_
                              refine zw_7 zr_206_140 rfl ?_
                              refine zw_46r (s := 70) zr_206_141 rfl rfl rfl rfl ?_
                              refine zw_push zr_206_144 ?_
                              refine zw_4 zr_206_147 rfl ?_
                              refine zw_16 zr_206_149 (by omega) ?_
                              refine zw_48k (c := 70) (len := 826) zr_206_150 rfl rfl (by omega) (by omega) (show ((818 + (((0 + 1) + 1) + 1)) : Int).toNat = 821 by omega) ef318 ?_
                              have qf318 : f318 = F70 ((818 + (((0 + 1) + 1) + 1)) : Int).toNat := by rw [show ((818 + (((0 + 1) + 1) + 1)) : Int).toNat = 821 by omega, ← hG70]; exact (ef318).symm
                              refine zw_36 zr_206_151 ?_
                              refine zw_27 zr_206_152 (by omega) ?_
                              refine zw_14 (L' := [(2, 69), (0, a0), (0, a1), (1, (((0 + x34) + x240) + x296)), (9, 0), (1, (((0 + x35) + x241) + x297)), (9, 0), (1, (x317 + x320)), (9, 0), (1, x321), (9, 0), (1, (((0 + f231) + f290) + f318)), (9, 0), (0, (((0 + 1) + 1) + 1)), (1, x296), (9, 0), (1, x297), (9, 0)]) zr_206_153 (Nat.le_of_ble_eq_true rfl) rfl ?_
                              have hP4 := prs_r (R := (fun c => F70 (10 + 8 * a0.toNat + 2 * c))) (A := (fun c => F70 (11 + 8 * a0.toNat + 2 * c))) (W := (fun c => F70 (818 + c))) (k := 4) hP3 rfl (qx296.trans (congrArg F70 (by omega))) (qx297.trans (congrArg F70 (by omega))) (qf318.trans (congrArg F70 (by omega))) (by omega) ex317 ex319 ex320 ex321 ⟨rfl, rfl⟩
                              refine zw_15 (c := 1) (L' := [(2, 69), (0, a0), (0, a1), (1, (((0 + x34) + x240) + x296)), (9, 0), (1, (((0 + x35) + x241) + x297)), (9, 0), (1, (x317 + x320)), (9, 0), (1, x321), (9, 0), (1, (((0 + f231) + f290) + f318)), (9, 0), (0, ((((0 + 1) + 1) + 1) + 1)), (1, x296), (9, 0), (1, x297), (9, 0)]) zr_206_155 rfl (by decide) (by omega) rfl ?_
                              refine zw_42 zr_206_158 ?_
                              skip
                              refine zw_4 zr_206_38 rfl ?_
                              refine zw_push zr_206_40 ?_
                              refine zw_41_3 zr_206_41 ?_ ?_
                              · intro h322
                                refine zw_6 zr_206_161 rfl ?_
                                refine zw_push zr_206_163 ?_
                                refine zw_39_4 zr_206_164 zr_206_165 ?_ ?_
                                · intro h323
                                  refine zw_3 zr_206_171 rfl ?_
                                  refine zw_40_4 zr_206_172 ?_ ?_
                                  · intro h324
                                    refine zw_7 zr_206_185 rfl ?_
                                    refine zw_6 zr_206_186 rfl ?_
                                    refine zw_6 zr_206_188 rfl ?_
                                    refine zw_6 zr_206_190 rfl ?_
                                    refine zw_29s (A := 970299) (B := 27) zr_206_192 (by omega) (by omega) (by decide) ?_
                                    intro x325 ex325 hx325a hx325b
                                    skip
                                    refine zw_C zr_206_193 (Or.inl rfl) zm_173 rfl rfl ⟨Nat.le_of_ble_eq_true rfl, Nat.le_of_ble_eq_true rfl, Nat.le_of_ble_eq_true rfl, rfl, by decide⟩ (by omega) (th_173 (d := d - 1) (by omega) hI0 (a0 := (x317 + x320)) (a1 := x325)      (by omega) (by omega) ) ?_
                                    rintro _ m326 ⟨rfl, hIm326, gm326, po0_m326⟩
                                    have hFm326 : zFr W_206 m0 m326 := hF0.trans gm326 rfl
                                    have km326_70_822 : m326 70 822 = g0 := (gm326 70 822 rfl).trans hg0
                                    have km326_70_818 : m326 70 818 = f231 := (gm326 70 818 rfl).trans ef231
                                    have km326_70_820 : m326 70 820 = f290 := (gm326 70 820 rfl).trans ef290
                                    have km326_70_821 : m326 70 821 = f318 := (gm326 70 821 rfl).trans ef318
                                    have fm326_70 : m326 70 = F70 := (funext fun k => gm326 70 k rfl).trans hG70
                                    obtain ⟨f327, ef327⟩ : ∃ v, m326 69 3 = v := ⟨_, rfl⟩
                                    have bf327 := hIm326.fl (c := 69) (k := 3) rfl
                                    rw [ef327] at bf327
                                    rw [ef327] at po0_m326
                                    obtain ⟨f328, ef328⟩ : ∃ v, m326 69 4 = v := ⟨_, rfl⟩
                                    have bf328 := hIm326.fl (c := 69) (k := 4) rfl
                                    rw [ef328] at bf328
                                    rw [ef328] at po0_m326
                                    show zW E (d) 206 196 [(2, 69), (0, a0), (0, a1), (1, (((0 + x34) + x240) + x296)), (9, 0), (1, (((0 + x35) + x241) + x297)), (9, 0), (1, (x317 + x320)), (9, 0), (1, x321), (9, 0), (1, (((0 + f231) + f290) + f318)), (9, 0), (0, ((((0 + 1) + 1) + 1) + 1)), (1, x296), (9, 0), (1, x297), (9, 0)] [] m326 Q
                                    have hF := prs_t hP4 ex325 po0_m326
                                    refine zw_push zr_206_196 ?_
                                    refine zw_R zr_206_197 (by decide) zm_206 (v := (0, 1)) rfl ?_
                                    rw [← hQ]; exact ⟨_, rfl, by omega, by omega, hIm326, hFm326, by omega, by first | exact Or.inr (Or.inr ⟨by decide, ef327, ef328⟩) | exact Or.inl ⟨rfl, by omega, by rw [ef327, ef328, show F70 (10 + 8 * a0 + 2 * 0).toNat + F70 (10 + 8 * a0 + 2 * (0 + 1)).toNat + F70 (10 + 8 * a0 + 2 * ((0 + 1) + 1)).toNat + F70 (10 + 8 * a0 + 2 * (((0 + 1) + 1) + 1)).toNat = (((0 + x34) + x240) + x296) by omega, show F70 (10 + 8 * a0 + 2 * 0 + 1).toNat + F70 (10 + 8 * a0 + 2 * (0 + 1) + 1).toNat + F70 (10 + 8 * a0 + 2 * ((0 + 1) + 1) + 1).toNat + F70 (10 + 8 * a0 + 2 * (((0 + 1) + 1) + 1) + 1).toNat = (((0 + x35) + x241) + x297) by omega]; exact po0_m326⟩ | exact Or.inr (Or.inl ⟨rfl, by omega, by rw [ef327, ef328]; exact hF⟩)⟩
                                  · intro h331
                                    refine zw_7 zr_206_175 rfl ?_
                                    refine zw_5 zr_206_176 rfl ?_
                                    refine zw_6 zr_206_177 rfl ?_
                                    refine zw_C zr_206_179 (Or.inl rfl) zm_173 rfl rfl ⟨Nat.le_of_ble_eq_true rfl, Nat.le_of_ble_eq_true rfl, Nat.le_of_ble_eq_true rfl, rfl, by decide⟩ (by omega) (th_173 (d := d - 1) (by omega) hI0 (a0 := (((0 + x34) + x240) + x296)) (a1 := (((0 + x35) + x241) + x297))      (by omega) (by omega) ) ?_
                                    rintro _ m332 ⟨rfl, hIm332, gm332, po0_m332⟩
                                    have hFm332 : zFr W_206 m0 m332 := hF0.trans gm332 rfl
                                    have km332_70_822 : m332 70 822 = g0 := (gm332 70 822 rfl).trans hg0
                                    have km332_70_818 : m332 70 818 = f231 := (gm332 70 818 rfl).trans ef231
                                    have km332_70_820 : m332 70 820 = f290 := (gm332 70 820 rfl).trans ef290
                                    have km332_70_821 : m332 70 821 = f318 := (gm332 70 821 rfl).trans ef318
                                    have fm332_70 : m332 70 = F70 := (funext fun k => gm332 70 k rfl).trans hG70
                                    obtain ⟨f333, ef333⟩ : ∃ v, m332 69 3 = v := ⟨_, rfl⟩
                                    have bf333 := hIm332.fl (c := 69) (k := 3) rfl
                                    rw [ef333] at bf333
                                    rw [ef333] at po0_m332
                                    obtain ⟨f334, ef334⟩ : ∃ v, m332 69 4 = v := ⟨_, rfl⟩
                                    have bf334 := hIm332.fl (c := 69) (k := 4) rfl
                                    rw [ef334] at bf334
                                    rw [ef334] at po0_m332
                                    show zW E (d) 206 182 [(2, 69), (0, a0), (0, a1), (1, (((0 + x34) + x240) + x296)), (9, 0), (1, (((0 + x35) + x241) + x297)), (9, 0), (1, (x317 + x320)), (9, 0), (1, x321), (9, 0), (1, (((0 + f231) + f290) + f318)), (9, 0), (0, ((((0 + 1) + 1) + 1) + 1)), (1, x296), (9, 0), (1, x297), (9, 0)] [] m332 Q
                                    skip
                                    refine zw_42 zr_206_182 ?_
                                    refine zw_push zr_206_196 ?_
                                    refine zw_R zr_206_197 (by decide) zm_206 (v := (0, 1)) rfl ?_
                                    rw [← hQ]; exact ⟨_, rfl, by omega, by omega, hIm332, hFm332, by omega, by first | exact Or.inr (Or.inr ⟨by decide, ef333, ef334⟩) | exact Or.inl ⟨rfl, by omega, by rw [ef333, ef334, show F70 (10 + 8 * a0 + 2 * 0).toNat + F70 (10 + 8 * a0 + 2 * (0 + 1)).toNat + F70 (10 + 8 * a0 + 2 * ((0 + 1) + 1)).toNat + F70 (10 + 8 * a0 + 2 * (((0 + 1) + 1) + 1)).toNat = (((0 + x34) + x240) + x296) by omega, show F70 (10 + 8 * a0 + 2 * 0 + 1).toNat + F70 (10 + 8 * a0 + 2 * (0 + 1) + 1).toNat + F70 (10 + 8 * a0 + 2 * ((0 + 1) + 1) + 1).toNat + F70 (10 + 8 * a0 + 2 * (((0 + 1) + 1) + 1) + 1).toNat = (((0 + x35) + x241) + x297) by omega]; exact po0_m332⟩ | exact Or.inr (Or.inl ⟨rfl, by omega, by rw [ef333, ef334]; exact hF⟩)⟩
                                · intro h337; omega
                              · intro h338; omega
                    · intro h339
                      refine zw_5 zr_206_93 rfl ?_
                      refine zw_6 zr_206_94 rfl ?_
                      refine zw_27 zr_206_96 (by omega) ?_
                      refine zw_13 (L' := [(2, 69), (0, a0), (0, a1), (1, ((0 + x34) + x235)), (9, 0), (1, (0 + x35)), (9, 0), (1, ((0 * x35) + (x232 * 1))), (9, 0), (1, (1 * x35)), (9, 0), (1, (0 + f231)), (9, 0), (0, (0 + 1)), (1, x235), (9, 0), (1, x236), (9, 0)]) zr_206_97 (Nat.le_of_ble_eq_true rfl) rfl ?_
                      refine zw_6 zr_206_98 rfl ?_
                      refine zw_6 zr_206_100 rfl ?_
                      refine zw_27 zr_206_102 (by omega) ?_
                      refine zw_14 (L' := [(2, 69), (0, a0), (0, a1), (1, ((0 + x34) + x235)), (9, 0), (1, ((0 + x35) + x236)), (9, 0), (1, ((0 * x35) + (x232 * 1))), (9, 0), (1, (1 * x35)), (9, 0), (1, (0 + f231)), (9, 0), (0, (0 + 1)), (1, x235), (9, 0), (1, x236), (9, 0)]) zr_206_103 (Nat.le_of_ble_eq_true rfl) rfl ?_
                      refine zw_6 zr_206_105 rfl ?_
                      refine zw_6 zr_206_107 rfl ?_
                      refine zw_29n (A := 891) (B := 99) zr_206_109 (by omega) (by omega) (by decide) ?_
                      intro x340 ex340 hx340a hx340b
                      skip
                      refine zw_7 zr_206_110 rfl ?_
                      refine zw_46r (s := 70) zr_206_111 rfl rfl rfl rfl ?_
                      refine zw_push zr_206_114 ?_
                      refine zw_4 zr_206_117 rfl ?_
                      refine zw_16 zr_206_119 (by omega) ?_
                      obtain ⟨f341, ef341⟩ : ∃ v, m0 70 819 = v := ⟨_, rfl⟩
                      have bf341 : 1 ≤ m0 70 819 ∧ m0 70 819 ≤ 9 := ib_70_weight hI0 (by omega)
                      rw [ef341] at bf341
                      refine zw_48k (c := 70) (len := 826) zr_206_120 rfl rfl (by omega) (by omega) (show ((818 + (0 + 1)) : Int).toNat = 819 by omega) ef341 ?_
                      have qf341 : f341 = F70 ((818 + (0 + 1)) : Int).toNat := by rw [show ((818 + (0 + 1)) : Int).toNat = 819 by omega, ← hG70]; exact (ef341).symm
                      skip
                      refine zw_36 zr_206_121 ?_
                      refine zw_6 zr_206_122 rfl ?_
                      refine zw_29n (A := 9) (B := 99) zr_206_124 (by omega) (by omega) (by decide) ?_
                      intro x342 ex342 hx342a hx342b
                      skip
                      refine zw_6 zr_206_125 rfl ?_
                      refine zw_29n (A := 891) (B := 99) zr_206_127 (by omega) (by omega) (by decide) ?_
                      intro x343 ex343 hx343a hx343b
                      skip
                      refine zw_27 zr_206_128 (by omega) ?_
                      refine zw_14 (L' := [(2, 69), (0, a0), (0, a1), (1, ((0 + x34) + x235)), (9, 0), (1, ((0 + x35) + x236)), (9, 0), (1, (x340 + x343)), (9, 0), (1, (1 * x35)), (9, 0), (1, (0 + f231)), (9, 0), (0, (0 + 1)), (1, x235), (9, 0), (1, x236), (9, 0)]) zr_206_129 (Nat.le_of_ble_eq_true rfl) rfl ?_
                      refine zw_6 zr_206_131 rfl ?_
                      refine zw_6 zr_206_133 rfl ?_
                      refine zw_29s (A := 99) (B := 99) zr_206_135 (by omega) (by omega) (by decide) ?_
                      intro x344 ex344 hx344a hx344b
                      skip
                      skip
                      refine zw_14 (L' := [(2, 69), (0, a0), (0, a1), (1, ((0 + x34) + x235)), (9, 0), (1, ((0 + x35) + x236)), (9, 0), (1, (x340 + x343)), (9, 0), (1, x344), (9, 0), (1, (0 + f231)), (9, 0), (0, (0 + 1)), (1, x235), (9, 0), (1, x236), (9, 0)]) zr_206_136 (Nat.le_of_ble_eq_true rfl) rfl ?_
                      refine zw_6 zr_206_138 rfl ?_
                      refine zw_7 zr_206_140 rfl ?_
                      refine zw_46r (s := 70) zr_206_141 rfl rfl rfl rfl ?_
                      refine zw_push zr_206_144 ?_
                      refine zw_4 zr_206_147 rfl ?_
                      refine zw_16 zr_206_149 (by omega) ?_
                      refine zw_48k (c := 70) (len := 826) zr_206_150 rfl rfl (by omega) (by omega) (show ((818 + (0 + 1)) : Int).toNat = 819 by omega) ef341 ?_
                      have qf341 : f341 = F70 ((818 + (0 + 1)) : Int).toNat := by rw [show ((818 + (0 + 1)) : Int).toNat = 819 by omega, ← hG70]; exact (ef341).symm
                      refine zw_36 zr_206_151 ?_
                      refine zw_27 zr_206_152 (by omega) ?_
                      refine zw_14 (L' := [(2, 69), (0, a0), (0, a1), (1, ((0 + x34) + x235)), (9, 0), (1, ((0 + x35) + x236)), (9, 0), (1, (x340 + x343)), (9, 0), (1, x344), (9, 0), (1, ((0 + f231) + f341)), (9, 0), (0, (0 + 1)), (1, x235), (9, 0), (1, x236), (9, 0)]) zr_206_153 (Nat.le_of_ble_eq_true rfl) rfl ?_
                      have hP2 := prs_r (R := (fun c => F70 (10 + 8 * a0.toNat + 2 * c))) (A := (fun c => F70 (11 + 8 * a0.toNat + 2 * c))) (W := (fun c => F70 (818 + c))) (k := 2) hP1 rfl (qx235.trans (congrArg F70 (by omega))) (qx236.trans (congrArg F70 (by omega))) (qf341.trans (congrArg F70 (by omega))) (by omega) ex340 ex342 ex343 ex344 ⟨rfl, rfl⟩
                      refine zw_15 (c := 1) (L' := [(2, 69), (0, a0), (0, a1), (1, ((0 + x34) + x235)), (9, 0), (1, ((0 + x35) + x236)), (9, 0), (1, (x340 + x343)), (9, 0), (1, x344), (9, 0), (1, ((0 + f231) + f341)), (9, 0), (0, ((0 + 1) + 1)), (1, x235), (9, 0), (1, x236), (9, 0)]) zr_206_155 rfl (by decide) (by omega) rfl ?_
                      refine zw_42 zr_206_158 ?_
                      skip
                      refine zw_4 zr_206_38 rfl ?_
                      refine zw_push zr_206_40 ?_
                      refine zw_41_3 zr_206_41 ?_ ?_
                      · intro h345; omega
                      · intro h346
                        refine zw_7 zr_206_44 rfl ?_
                        refine zw_46r (s := 70) zr_206_45 rfl rfl rfl rfl ?_
                        refine zw_push zr_206_48 ?_
                        refine zw_push zr_206_50 ?_
                        refine zw_3 zr_206_52 rfl ?_
                        refine zw_18 zr_206_53 (by omega) ?_
                        refine zw_16 zr_206_54 (by omega) ?_
                        refine zw_push zr_206_55 ?_
                        refine zw_4 zr_206_56 rfl ?_
                        refine zw_18 zr_206_58 (by omega) ?_
                        refine zw_16 zr_206_59 (by omega) ?_
                        refine zw_48 (c := 70) (len := 826) zr_206_60 rfl rfl (by omega) (by omega) ?_
                        intro x347 ex347
                        have bx347 := ib_70_moves hI0 (k := (((10 + (8 * a0)) + (2 * ((0 + 1) + 1)))).toNat) (by omega)
                        rw [← ex347] at bx347
                        have qx347 : x347 = F70 (((10 + (8 * a0)) + (2 * ((0 + 1) + 1)))).toNat := by rw [← hG70]; exact ex347
                        clear ex347
                        skip
                        refine zw_36 zr_206_61 ?_
                        refine zw_14 (L' := [(2, 69), (0, a0), (0, a1), (1, ((0 + x34) + x235)), (9, 0), (1, ((0 + x35) + x236)), (9, 0), (1, (x340 + x343)), (9, 0), (1, x344), (9, 0), (1, ((0 + f231) + f341)), (9, 0), (0, ((0 + 1) + 1)), (1, x347), (9, 0), (1, x236), (9, 0)]) zr_206_62 (Nat.le_of_ble_eq_true rfl) rfl ?_
                        refine zw_7 zr_206_64 rfl ?_
                        refine zw_46r (s := 70) zr_206_65 rfl rfl rfl rfl ?_
                        refine zw_push zr_206_68 ?_
                        refine zw_push zr_206_70 ?_
                        refine zw_3 zr_206_72 rfl ?_
                        refine zw_18 zr_206_73 (by omega) ?_
                        refine zw_16 zr_206_74 (by omega) ?_
                        refine zw_push zr_206_75 ?_
                        refine zw_4 zr_206_76 rfl ?_
                        refine zw_18 zr_206_78 (by omega) ?_
                        refine zw_16 zr_206_79 (by omega) ?_
                        refine zw_push zr_206_80 ?_
                        refine zw_16 zr_206_81 (by omega) ?_
                        refine zw_48 (c := 70) (len := 826) zr_206_82 rfl rfl (by omega) (by omega) ?_
                        intro x348 ex348
                        have bx348 := ib_70_moves hI0 (k := ((((10 + (8 * a0)) + (2 * ((0 + 1) + 1))) + 1)).toNat) (by omega)
                        rw [← ex348] at bx348
                        have qx348 : x348 = F70 ((((10 + (8 * a0)) + (2 * ((0 + 1) + 1))) + 1)).toNat := by rw [← hG70]; exact ex348
                        clear ex348
                        skip
                        skip
                        refine zw_36 zr_206_83 ?_
                        refine zw_14 (L' := [(2, 69), (0, a0), (0, a1), (1, ((0 + x34) + x235)), (9, 0), (1, ((0 + x35) + x236)), (9, 0), (1, (x340 + x343)), (9, 0), (1, x344), (9, 0), (1, ((0 + f231) + f341)), (9, 0), (0, ((0 + 1) + 1)), (1, x347), (9, 0), (1, x348), (9, 0)]) zr_206_84 (Nat.le_of_ble_eq_true rfl) rfl ?_
                        refine zw_6 zr_206_86 rfl ?_
                        refine zw_push zr_206_88 ?_
                        refine zw_39_5 zr_206_89 zr_206_90 ?_ ?_
                        · intro h349
                          have hP3 := prs_n (R := (fun c => F70 (10 + 8 * a0.toNat + 2 * c))) (A := (fun c => F70 (11 + 8 * a0.toNat + 2 * c))) (W := (fun c => F70 (818 + c))) (k := 3) hP2 rfl (qx348.trans (congrArg F70 (by omega))) (by omega)
                          refine zw_15 (c := 1) (L' := [(2, 69), (0, a0), (0, a1), (1, ((0 + x34) + x235)), (9, 0), (1, ((0 + x35) + x236)), (9, 0), (1, (x340 + x343)), (9, 0), (1, x344), (9, 0), (1, ((0 + f231) + f341)), (9, 0), (0, (((0 + 1) + 1) + 1)), (1, x347), (9, 0), (1, x348), (9, 0)]) zr_206_155 rfl (by decide) (by omega) rfl ?_
                          refine zw_42 zr_206_158 ?_
                          skip
                          refine zw_4 zr_206_38 rfl ?_
                          refine zw_push zr_206_40 ?_
                          refine zw_41_3 zr_206_41 ?_ ?_
                          · intro h350; omega
                          · intro h351
                            refine zw_7 zr_206_44 rfl ?_
                            refine zw_46r (s := 70) zr_206_45 rfl rfl rfl rfl ?_
                            refine zw_push zr_206_48 ?_
                            refine zw_push zr_206_50 ?_
                            refine zw_3 zr_206_52 rfl ?_
                            refine zw_18 zr_206_53 (by omega) ?_
                            refine zw_16 zr_206_54 (by omega) ?_
                            refine zw_push zr_206_55 ?_
                            refine zw_4 zr_206_56 rfl ?_
                            refine zw_18 zr_206_58 (by omega) ?_
                            refine zw_16 zr_206_59 (by omega) ?_
                            refine zw_48 (c := 70) (len := 826) zr_206_60 rfl rfl (by omega) (by omega) ?_
                            intro x352 ex352
                            have bx352 := ib_70_moves hI0 (k := (((10 + (8 * a0)) + (2 * (((0 + 1) + 1) + 1)))).toNat) (by omega)
                            rw [← ex352] at bx352
                            have qx352 : x352 = F70 (((10 + (8 * a0)) + (2 * (((0 + 1) + 1) + 1)))).toNat := by rw [← hG70]; exact ex352
                            clear ex352
                            skip
                            refine zw_36 zr_206_61 ?_
                            refine zw_14 (L' := [(2, 69), (0, a0), (0, a1), (1, ((0 + x34) + x235)), (9, 0), (1, ((0 + x35) + x236)), (9, 0), (1, (x340 + x343)), (9, 0), (1, x344), (9, 0), (1, ((0 + f231) + f341)), (9, 0), (0, (((0 + 1) + 1) + 1)), (1, x352), (9, 0), (1, x348), (9, 0)]) zr_206_62 (Nat.le_of_ble_eq_true rfl) rfl ?_
                            refine zw_7 zr_206_64 rfl ?_
                            refine zw_46r (s := 70) zr_206_65 rfl rfl rfl rfl ?_
                            refine zw_push zr_206_68 ?_
                            refine zw_push zr_206_70 ?_
                            refine zw_3 zr_206_72 rfl ?_
                            refine zw_18 zr_206_73 (by omega) ?_
                            refine zw_16 zr_206_74 (by omega) ?_
                            refine zw_push zr_206_75 ?_
                            refine zw_4 zr_206_76 rfl ?_
                            refine zw_18 zr_206_78 (by omega) ?_
                            refine zw_16 zr_206_79 (by omega) ?_
                            refine zw_push zr_206_80 ?_
                            refine zw_16 zr_206_81 (by omega) ?_
                            refine zw_48 (c := 70) (len := 826) zr_206_82 rfl rfl (by omega) (by omega) ?_
                            intro x353 ex353
                            have bx353 := ib_70_moves hI0 (k := ((((10 + (8 * a0)) + (2 * (((0 + 1) + 1) + 1))) + 1)).toNat) (by omega)
                            rw [← ex353] at bx353
                            have qx353 : x353 = F70 ((((10 + (8 * a0)) + (2 * (((0 + 1) + 1) + 1))) + 1)).toNat := by rw [← hG70]; exact ex353
                            clear ex353
                            skip
                            skip
                            refine zw_36 zr_206_83 ?_
                            refine zw_14 (L' := [(2, 69), (0, a0), (0, a1), (1, ((0 + x34) + x235)), (9, 0), (1, ((0 + x35) + x236)), (9, 0), (1, (x340 + x343)), (9, 0), (1, x344), (9, 0), (1, ((0 + f231) + f341)), (9, 0), (0, (((0 + 1) + 1) + 1)), (1, x352), (9, 0), (1, x353), (9, 0)]) zr_206_84 (Nat.le_of_ble_eq_true rfl) rfl ?_
                            refine zw_6 zr_206_86 rfl ?_
                            refine zw_push zr_206_88 ?_
                            refine zw_39_5 zr_206_89 zr_206_90 ?_ ?_
                            · intro h354
                              have hP4 := prs_n (R := (fun c => F70 (10 + 8 * a0.toNat + 2 * c))) (A := (fun c => F70 (11 + 8 * a0.toNat + 2 * c))) (W := (fun c => F70 (818 + c))) (k := 4) hP3 rfl (qx353.trans (congrArg F70 (by omega))) (by omega)
                              refine zw_15 (c := 1) (L' := [(2, 69), (0, a0), (0, a1), (1, ((0 + x34) + x235)), (9, 0), (1, ((0 + x35) + x236)), (9, 0), (1, (x340 + x343)), (9, 0), (1, x344), (9, 0), (1, ((0 + f231) + f341)), (9, 0), (0, ((((0 + 1) + 1) + 1) + 1)), (1, x352), (9, 0), (1, x353), (9, 0)]) zr_206_155 rfl (by decide) (by omega) rfl ?_
                              refine zw_42 zr_206_158 ?_
                              skip
                              refine zw_4 zr_206_38 rfl ?_
                              refine zw_push zr_206_40 ?_
                              refine zw_41_3 zr_206_41 ?_ ?_
                              · intro h355
                                refine zw_6 zr_206_161 rfl ?_
                                refine zw_push zr_206_163 ?_
                                refine zw_39_4 zr_206_164 zr_206_165 ?_ ?_
                                · intro h356
                                  refine zw_3 zr_206_171 rfl ?_
                                  refine zw_40_4 zr_206_172 ?_ ?_
                                  · intro h357
                                    refine zw_7 zr_206_185 rfl ?_
                                    refine zw_6 zr_206_186 rfl ?_
                                    refine zw_6 zr_206_188 rfl ?_
                                    refine zw_6 zr_206_190 rfl ?_
                                    refine zw_29s (A := 9801) (B := 18) zr_206_192 (by omega) (by omega) (by decide) ?_
                                    intro x358 ex358 hx358a hx358b
                                    skip
                                    refine zw_C zr_206_193 (Or.inl rfl) zm_173 rfl rfl ⟨Nat.le_of_ble_eq_true rfl, Nat.le_of_ble_eq_true rfl, Nat.le_of_ble_eq_true rfl, rfl, by decide⟩ (by omega) (th_173 (d := d - 1) (by omega) hI0 (a0 := (x340 + x343)) (a1 := x358)      (by omega) (by omega) ) ?_
                                    rintro _ m359 ⟨rfl, hIm359, gm359, po0_m359⟩
                                    have hFm359 : zFr W_206 m0 m359 := hF0.trans gm359 rfl
                                    have km359_70_822 : m359 70 822 = g0 := (gm359 70 822 rfl).trans hg0
                                    have km359_70_818 : m359 70 818 = f231 := (gm359 70 818 rfl).trans ef231
                                    have km359_70_819 : m359 70 819 = f341 := (gm359 70 819 rfl).trans ef341
                                    have fm359_70 : m359 70 = F70 := (funext fun k => gm359 70 k rfl).trans hG70
                                    obtain ⟨f360, ef360⟩ : ∃ v, m359 69 3 = v := ⟨_, rfl⟩
                                    have bf360 := hIm359.fl (c := 69) (k := 3) rfl
                                    rw [ef360] at bf360
                                    rw [ef360] at po0_m359
                                    obtain ⟨f361, ef361⟩ : ∃ v, m359 69 4 = v := ⟨_, rfl⟩
                                    have bf361 := hIm359.fl (c := 69) (k := 4) rfl
                                    rw [ef361] at bf361
                                    rw [ef361] at po0_m359
                                    show zW E (d) 206 196 [(2, 69), (0, a0), (0, a1), (1, ((0 + x34) + x235)), (9, 0), (1, ((0 + x35) + x236)), (9, 0), (1, (x340 + x343)), (9, 0), (1, x344), (9, 0), (1, ((0 + f231) + f341)), (9, 0), (0, ((((0 + 1) + 1) + 1) + 1)), (1, x352), (9, 0), (1, x353), (9, 0)] [] m359 Q
                                    have hF := prs_t hP4 ex358 po0_m359
                                    refine zw_push zr_206_196 ?_
                                    refine zw_R zr_206_197 (by decide) zm_206 (v := (0, 1)) rfl ?_
                                    rw [← hQ]; exact ⟨_, rfl, by omega, by omega, hIm359, hFm359, by omega, by first | exact Or.inr (Or.inr ⟨by decide, ef360, ef361⟩) | exact Or.inl ⟨rfl, by omega, by rw [ef360, ef361, show F70 (10 + 8 * a0 + 2 * 0).toNat + F70 (10 + 8 * a0 + 2 * (0 + 1)).toNat + F70 (10 + 8 * a0 + 2 * ((0 + 1) + 1)).toNat + F70 (10 + 8 * a0 + 2 * (((0 + 1) + 1) + 1)).toNat = ((0 + x34) + x235) by omega, show F70 (10 + 8 * a0 + 2 * 0 + 1).toNat + F70 (10 + 8 * a0 + 2 * (0 + 1) + 1).toNat + F70 (10 + 8 * a0 + 2 * ((0 + 1) + 1) + 1).toNat + F70 (10 + 8 * a0 + 2 * (((0 + 1) + 1) + 1) + 1).toNat = ((0 + x35) + x236) by omega]; exact po0_m359⟩ | exact Or.inr (Or.inl ⟨rfl, by omega, by rw [ef360, ef361]; exact hF⟩)⟩
                                  · intro h364
                                    refine zw_7 zr_206_175 rfl ?_
                                    refine zw_5 zr_206_176 rfl ?_
                                    refine zw_6 zr_206_177 rfl ?_
                                    refine zw_C zr_206_179 (Or.inl rfl) zm_173 rfl rfl ⟨Nat.le_of_ble_eq_true rfl, Nat.le_of_ble_eq_true rfl, Nat.le_of_ble_eq_true rfl, rfl, by decide⟩ (by omega) (th_173 (d := d - 1) (by omega) hI0 (a0 := ((0 + x34) + x235)) (a1 := ((0 + x35) + x236))      (by omega) (by omega) ) ?_
                                    rintro _ m365 ⟨rfl, hIm365, gm365, po0_m365⟩
                                    have hFm365 : zFr W_206 m0 m365 := hF0.trans gm365 rfl
                                    have km365_70_822 : m365 70 822 = g0 := (gm365 70 822 rfl).trans hg0
                                    have km365_70_818 : m365 70 818 = f231 := (gm365 70 818 rfl).trans ef231
                                    have km365_70_819 : m365 70 819 = f341 := (gm365 70 819 rfl).trans ef341
                                    have fm365_70 : m365 70 = F70 := (funext fun k => gm365 70 k rfl).trans hG70
                                    obtain ⟨f366, ef366⟩ : ∃ v, m365 69 3 = v := ⟨_, rfl⟩
                                    have bf366 := hIm365.fl (c := 69) (k := 3) rfl
                                    rw [ef366] at bf366
                                    rw [ef366] at po0_m365
                                    obtain ⟨f367, ef367⟩ : ∃ v, m365 69 4 = v := ⟨_, rfl⟩
                                    have bf367 := hIm365.fl (c := 69) (k := 4) rfl
                                    rw [ef367] at bf367
                                    rw [ef367] at po0_m365
                                    show zW E (d) 206 182 [(2, 69), (0, a0), (0, a1), (1, ((0 + x34) + x235)), (9, 0), (1, ((0 + x35) + x236)), (9, 0), (1, (x340 + x343)), (9, 0), (1, x344), (9, 0), (1, ((0 + f231) + f341)), (9, 0), (0, ((((0 + 1) + 1) + 1) + 1)), (1, x352), (9, 0), (1, x353), (9, 0)] [] m365 Q
                                    skip
                                    refine zw_42 zr_206_182 ?_
                                    refine zw_push zr_206_196 ?_
                                    refine zw_R zr_206_197 (by decide) zm_206 (v := (0, 1)) rfl ?_
                                    rw [← hQ]; exact ⟨_, rfl, by omega, by omega, hIm365, hFm365, by omega, by first | exact Or.inr (Or.inr ⟨by decide, ef366, ef367⟩) | exact Or.inl ⟨rfl, by omega, by rw [ef366, ef367, show F70 (10 + 8 * a0 + 2 * 0).toNat + F70 (10 + 8 * a0 + 2 * (0 + 1)).toNat + F70 (10 + 8 * a0 + 2 * ((0 + 1) + 1)).toNat + F70 (10 + 8 * a0 + 2 * (((0 + 1) + 1) + 1)).toNat = ((0 + x34) + x235) by omega, show F70 (10 + 8 * a0 + 2 * 0 + 1).toNat + F70 (10 + 8 * a0 + 2 * (0 + 1) + 1).toNat + F70 (10 + 8 * a0 + 2 * ((0 + 1) + 1) + 1).toNat + F70 (10 + 8 * a0 + 2 * (((0 + 1) + 1) + 1) + 1).toNat = ((0 + x35) + x236) by omega]; exact po0_m365⟩ | exact Or.inr (Or.inl ⟨rfl, by omega, by rw [ef366, ef367]; exact hF⟩)⟩
                                · intro h370; omega
                              · intro h371; omega
                            · intro h372
                              refine zw_5 zr_206_93 rfl ?_
                              refine zw_6 zr_206_94 rfl ?_
                              refine zw_27 zr_206_96 (by omega) ?_
                              refine zw_13 (L' := [(2, 69), (0, a0), (0, a1), (1, (((0 + x34) + x235) + x352)), (9, 0), (1, ((0 + x35) + x236)), (9, 0), (1, (x340 + x343)), (9, 0), (1, x344), (9, 0), (1, ((0 + f231) + f341)), (9, 0), (0, (((0 + 1) + 1) + 1)), (1, x352), (9, 0), (1, x353), (9, 0)]) zr_206_97 (Nat.le_of_ble_eq_true rfl) rfl ?_
                              refine zw_6 zr_206_98 rfl ?_
                              refine zw_6 zr_206_100 rfl ?_
                              refine zw_27 zr_206_102 (by omega) ?_
                              refine zw_14 (L' := [(2, 69), (0, a0), (0, a1), (1, (((0 + x34) + x235) + x352)), (9, 0), (1, (((0 + x35) + x236) + x353)), (9, 0), (1, (x340 + x343)), (9, 0), (1, x344), (9, 0), (1, ((0 + f231) + f341)), (9, 0), (0, (((0 + 1) + 1) + 1)), (1, x352), (9, 0), (1, x353), (9, 0)]) zr_206_103 (Nat.le_of_ble_eq_true rfl) rfl ?_
                              refine zw_6 zr_206_105 rfl ?_
                              refine zw_6 zr_206_107 rfl ?_
                              refine zw_29n (A := 176418) (B := 99) zr_206_109 (by omega) (by omega) (by decide) ?_
                              intro x373 ex373 hx373a hx373b
                              skip
                              refine zw_7 zr_206_110 rfl ?_
                              refine zw_46r (s := 70) zr_206_111 rfl rfl rfl rfl ?_
                              refine zw_push zr_206_114 ?_
                              refine zw_4 zr_206_117 rfl ?_
                              refine zw_16 zr_206_119 (by omega) ?_
                              obtain ⟨f374, ef374⟩ : ∃ v, m0 70 821 = v := ⟨_, rfl⟩
                              have bf374 : 1 ≤ m0 70 821 ∧ m0 70 821 ≤ 9 := ib_70_weight hI0 (by omega)
                              rw [ef374] at bf374
                              refine zw_48k (c := 70) (len := 826) zr_206_120 rfl rfl (by omega) (by omega) (show ((818 + (((0 + 1) + 1) + 1)) : Int).toNat = 821 by omega) ef374 ?_
                              have qf374 : f374 = F70 ((818 + (((0 + 1) + 1) + 1)) : Int).toNat := by rw [show ((818 + (((0 + 1) + 1) + 1)) : Int).toNat = 821 by omega, ← hG70]; exact (ef374).symm
                              skip
                              refine zw_36 zr_206_121 ?_
                              refine zw_6 zr_206_122 rfl ?_
                              refine zw_29n (A := 9) (B := 99) zr_206_124 (by omega) (by omega) (by decide) ?_
                              intro x375 ex375 hx375a hx375b
                              skip
                              refine zw_6 zr_206_125 rfl ?_
                              refine zw_29n (A := 891) (B := 9801) zr_206_127 (by omega) (by omega) (by decide) ?_
                              intro x376 ex376 hx376a hx376b
                              skip
                              refine zw_27 zr_206_128 (by omega) ?_
                              refine zw_14 (L' := [(2, 69), (0, a0), (0, a1), (1, (((0 + x34) + x235) + x352)), (9, 0), (1, (((0 + x35) + x236) + x353)), (9, 0), (1, (x373 + x376)), (9, 0), (1, x344), (9, 0), (1, ((0 + f231) + f341)), (9, 0), (0, (((0 + 1) + 1) + 1)), (1, x352), (9, 0), (1, x353), (9, 0)]) zr_206_129 (Nat.le_of_ble_eq_true rfl) rfl ?_
                              refine zw_6 zr_206_131 rfl ?_
                              refine zw_6 zr_206_133 rfl ?_
                              refine zw_29s (A := 9801) (B := 99) zr_206_135 (by omega) (by omega) (by decide) ?_
                              intro x377 ex377 hx377a hx377b
                              skip
                              skip
                              refine zw_14 (L' := [(2, 69), (0, a0), (0, a1), (1, (((0 + x34) + x235) + x352)), (9, 0), (1, (((0 + x35) + x236) + x353)), (9, 0), (1, (x373 + x376)), (9, 0), (1, x377), (9, 0), (1, ((0 + f231) + f341)), (9, 0), (0, (((0 + 1) + 1) + 1)), (1, x352), (9, 0), (1, x353), (9, 0)]) zr_206_136 (Nat.le_of_ble_eq_true rfl) rfl ?_
                              refine zw_6 zr_206_138 rfl ?_
                              refine zw_7 zr_206_140 rfl ?_
                              refine zw_46r (s := 70) zr_206_141 rfl rfl rfl rfl ?_
                              refine zw_push zr_206_144 ?_
                              refine zw_4 zr_206_147 rfl ?_
                              refine zw_16 zr_206_149 (by omega) ?_
                              refine zw_48k (c := 70) (len := 826) zr_206_150 rfl rfl (by omega) (by omega) (show ((818 + (((0 + 1) + 1) + 1)) : Int).toNat = 821 by omega) ef374 ?_
                              have qf374 : f374 = F70 ((818 + (((0 + 1) + 1) + 1)) : Int).toNat := by rw [show ((818 + (((0 + 1) + 1) + 1)) : Int).toNat = 821 by omega, ← hG70]; exact (ef374).symm
                              refine zw_36 zr_206_151 ?_
                              refine zw_27 zr_206_152 (by omega) ?_
                              refine zw_14 (L' := [(2, 69), (0, a0), (0, a1), (1, (((0 + x34) + x235) + x352)), (9, 0), (1, (((0 + x35) + x236) + x353)), (9, 0), (1, (x373 + x376)), (9, 0), (1, x377), (9, 0), (1, (((0 + f231) + f341) + f374)), (9, 0), (0, (((0 + 1) + 1) + 1)), (1, x352), (9, 0), (1, x353), (9, 0)]) zr_206_153 (Nat.le_of_ble_eq_true rfl) rfl ?_
                              have hP4 := prs_r (R := (fun c => F70 (10 + 8 * a0.toNat + 2 * c))) (A := (fun c => F70 (11 + 8 * a0.toNat + 2 * c))) (W := (fun c => F70 (818 + c))) (k := 4) hP3 rfl (qx352.trans (congrArg F70 (by omega))) (qx353.trans (congrArg F70 (by omega))) (qf374.trans (congrArg F70 (by omega))) (by omega) ex373 ex375 ex376 ex377 ⟨rfl, rfl⟩
                              refine zw_15 (c := 1) (L' := [(2, 69), (0, a0), (0, a1), (1, (((0 + x34) + x235) + x352)), (9, 0), (1, (((0 + x35) + x236) + x353)), (9, 0), (1, (x373 + x376)), (9, 0), (1, x377), (9, 0), (1, (((0 + f231) + f341) + f374)), (9, 0), (0, ((((0 + 1) + 1) + 1) + 1)), (1, x352), (9, 0), (1, x353), (9, 0)]) zr_206_155 rfl (by decide) (by omega) rfl ?_
                              refine zw_42 zr_206_158 ?_
                              skip
                              refine zw_4 zr_206_38 rfl ?_
                              refine zw_push zr_206_40 ?_
                              refine zw_41_3 zr_206_41 ?_ ?_
                              · intro h378
                                refine zw_6 zr_206_161 rfl ?_
                                refine zw_push zr_206_163 ?_
                                refine zw_39_4 zr_206_164 zr_206_165 ?_ ?_
                                · intro h379
                                  refine zw_3 zr_206_171 rfl ?_
                                  refine zw_40_4 zr_206_172 ?_ ?_
                                  · intro h380
                                    refine zw_7 zr_206_185 rfl ?_
                                    refine zw_6 zr_206_186 rfl ?_
                                    refine zw_6 zr_206_188 rfl ?_
                                    refine zw_6 zr_206_190 rfl ?_
                                    refine zw_29s (A := 970299) (B := 27) zr_206_192 (by omega) (by omega) (by decide) ?_
                                    intro x381 ex381 hx381a hx381b
                                    skip
                                    refine zw_C zr_206_193 (Or.inl rfl) zm_173 rfl rfl ⟨Nat.le_of_ble_eq_true rfl, Nat.le_of_ble_eq_true rfl, Nat.le_of_ble_eq_true rfl, rfl, by decide⟩ (by omega) (th_173 (d := d - 1) (by omega) hI0 (a0 := (x373 + x376)) (a1 := x381)      (by omega) (by omega) ) ?_
                                    rintro _ m382 ⟨rfl, hIm382, gm382, po0_m382⟩
                                    have hFm382 : zFr W_206 m0 m382 := hF0.trans gm382 rfl
                                    have km382_70_822 : m382 70 822 = g0 := (gm382 70 822 rfl).trans hg0
                                    have km382_70_818 : m382 70 818 = f231 := (gm382 70 818 rfl).trans ef231
                                    have km382_70_819 : m382 70 819 = f341 := (gm382 70 819 rfl).trans ef341
                                    have km382_70_821 : m382 70 821 = f374 := (gm382 70 821 rfl).trans ef374
                                    have fm382_70 : m382 70 = F70 := (funext fun k => gm382 70 k rfl).trans hG70
                                    obtain ⟨f383, ef383⟩ : ∃ v, m382 69 3 = v := ⟨_, rfl⟩
                                    have bf383 := hIm382.fl (c := 69) (k := 3) rfl
                                    rw [ef383] at bf383
                                    rw [ef383] at po0_m382
                                    obtain ⟨f384, ef384⟩ : ∃ v, m382 69 4 = v := ⟨_, rfl⟩
                                    have bf384 := hIm382.fl (c := 69) (k := 4) rfl
                                    rw [ef384] at bf384
                                    rw [ef384] at po0_m382
                                    show zW E (d) 206 196 [(2, 69), (0, a0), (0, a1), (1, (((0 + x34) + x235) + x352)), (9, 0), (1, (((0 + x35) + x236) + x353)), (9, 0), (1, (x373 + x376)), (9, 0), (1, x377), (9, 0), (1, (((0 + f231) + f341) + f374)), (9, 0), (0, ((((0 + 1) + 1) + 1) + 1)), (1, x352), (9, 0), (1, x353), (9, 0)] [] m382 Q
                                    have hF := prs_t hP4 ex381 po0_m382
                                    refine zw_push zr_206_196 ?_
                                    refine zw_R zr_206_197 (by decide) zm_206 (v := (0, 1)) rfl ?_
                                    rw [← hQ]; exact ⟨_, rfl, by omega, by omega, hIm382, hFm382, by omega, by first | exact Or.inr (Or.inr ⟨by decide, ef383, ef384⟩) | exact Or.inl ⟨rfl, by omega, by rw [ef383, ef384, show F70 (10 + 8 * a0 + 2 * 0).toNat + F70 (10 + 8 * a0 + 2 * (0 + 1)).toNat + F70 (10 + 8 * a0 + 2 * ((0 + 1) + 1)).toNat + F70 (10 + 8 * a0 + 2 * (((0 + 1) + 1) + 1)).toNat = (((0 + x34) + x235) + x352) by omega, show F70 (10 + 8 * a0 + 2 * 0 + 1).toNat + F70 (10 + 8 * a0 + 2 * (0 + 1) + 1).toNat + F70 (10 + 8 * a0 + 2 * ((0 + 1) + 1) + 1).toNat + F70 (10 + 8 * a0 + 2 * (((0 + 1) + 1) + 1) + 1).toNat = (((0 + x35) + x236) + x353) by omega]; exact po0_m382⟩ | exact Or.inr (Or.inl ⟨rfl, by omega, by rw [ef383, ef384]; exact hF⟩)⟩
                                  · intro h387
                                    refine zw_7 zr_206_175 rfl ?_
                                    refine zw_5 zr_206_176 rfl ?_
                                    refine zw_6 zr_206_177 rfl ?_
                                    refine zw_C zr_206_179 (Or.inl rfl) zm_173 rfl rfl ⟨Nat.le_of_ble_eq_true rfl, Nat.le_of_ble_eq_true rfl, Nat.le_of_ble_eq_true rfl, rfl, by decide⟩ (by omega) (th_173 (d := d - 1) (by omega) hI0 (a0 := (((0 + x34) + x235) + x352)) (a1 := (((0 + x35) + x236) + x353))      (by omega) (by omega) ) ?_
                                    rintro _ m388 ⟨rfl, hIm388, gm388, po0_m388⟩
                                    have hFm388 : zFr W_206 m0 m388 := hF0.trans gm388 rfl
                                    have km388_70_822 : m388 70 822 = g0 := (gm388 70 822 rfl).trans hg0
                                    have km388_70_818 : m388 70 818 = f231 := (gm388 70 818 rfl).trans ef231
                                    have km388_70_819 : m388 70 819 = f341 := (gm388 70 819 rfl).trans ef341
                                    have km388_70_821 : m388 70 821 = f374 := (gm388 70 821 rfl).trans ef374
                                    have fm388_70 : m388 70 = F70 := (funext fun k => gm388 70 k rfl).trans hG70
                                    obtain ⟨f389, ef389⟩ : ∃ v, m388 69 3 = v := ⟨_, rfl⟩
                                    have bf389 := hIm388.fl (c := 69) (k := 3) rfl
                                    rw [ef389] at bf389
                                    rw [ef389] at po0_m388
                                    obtain ⟨f390, ef390⟩ : ∃ v, m388 69 4 = v := ⟨_, rfl⟩
                                    have bf390 := hIm388.fl (c := 69) (k := 4) rfl
                                    rw [ef390] at bf390
                                    rw [ef390] at po0_m388
                                    show zW E (d) 206 182 [(2, 69), (0, a0), (0, a1), (1, (((0 + x34) + x235) + x352)), (9, 0), (1, (((0 + x35) + x236) + x353)), (9, 0), (1, (x373 + x376)), (9, 0), (1, x377), (9, 0), (1, (((0 + f231) + f341) + f374)), (9, 0), (0, ((((0 + 1) + 1) + 1) + 1)), (1, x352), (9, 0), (1, x353), (9, 0)] [] m388 Q
                                    skip
                                    refine zw_42 zr_206_182 ?_
                                    refine zw_push zr_206_196 ?_
                                    refine zw_R zr_206_197 (by decide) zm_206 (v := (0, 1)) rfl ?_
                                    rw [← hQ]; exact ⟨_, rfl, by omega, by omega, hIm388, hFm388, by omega, by first | exact Or.inr (Or.inr ⟨by decide, ef389, ef390⟩) | exact Or.inl ⟨rfl, by omega, by rw [ef389, ef390, show F70 (10 + 8 * a0 + 2 * 0).toNat + F70 (10 + 8 * a0 + 2 * (0 + 1)).toNat + F70 (10 + 8 * a0 + 2 * ((0 + 1) + 1)).toNat + F70 (10 + 8 * a0 + 2 * (((0 + 1) + 1) + 1)).toNat = (((0 + x34) + x235) + x352) by omega, show F70 (10 + 8 * a0 + 2 * 0 + 1).toNat + F70 (10 + 8 * a0 + 2 * (0 + 1) + 1).toNat + F70 (10 + 8 * a0 + 2 * ((0 + 1) + 1) + 1).toNat + F70 (10 + 8 * a0 + 2 * (((0 + 1) + 1) + 1) + 1).toNat = (((0 + x35) + x236) + x353) by omega]; exact po0_m388⟩ | exact Or.inr (Or.inl ⟨rfl, by omega, by rw [ef389, ef390]; exact hF⟩)⟩
                                · intro h393; omega
                              · intro h394; omega
                        · intro h395
                          refine zw_5 zr_206_93 rfl ?_
                          refine zw_6 zr_206_94 rfl ?_
                          refine zw_27 zr_206_96 (by omega) ?_
                          refine zw_13 (L' := [(2, 69), (0, a0), (0, a1), (1, (((0 + x34) + x235) + x347)), (9, 0), (1, ((0 + x35) + x236)), (9, 0), (1, (x340 + x343)), (9, 0), (1, x344), (9, 0), (1, ((0 + f231) + f341)), (9, 0), (0, ((0 + 1) + 1)), (1, x347), (9, 0), (1, x348), (9, 0)]) zr_206_97 (Nat.le_of_ble_eq_true rfl) rfl ?_
                          refine zw_6 zr_206_98 rfl ?_
                          refine zw_6 zr_206_100 rfl ?_
                          refine zw_27 zr_206_102 (by omega) ?_
                          refine zw_14 (L' := [(2, 69), (0, a0), (0, a1), (1, (((0 + x34) + x235) + x347)), (9, 0), (1, (((0 + x35) + x236) + x348)), (9, 0), (1, (x340 + x343)), (9, 0), (1, x344), (9, 0), (1, ((0 + f231) + f341)), (9, 0), (0, ((0 + 1) + 1)), (1, x347), (9, 0), (1, x348), (9, 0)]) zr_206_103 (Nat.le_of_ble_eq_true rfl) rfl ?_
                          refine zw_6 zr_206_105 rfl ?_
                          refine zw_6 zr_206_107 rfl ?_
                          refine zw_29n (A := 176418) (B := 99) zr_206_109 (by omega) (by omega) (by decide) ?_
                          intro x396 ex396 hx396a hx396b
                          skip
                          refine zw_7 zr_206_110 rfl ?_
                          refine zw_46r (s := 70) zr_206_111 rfl rfl rfl rfl ?_
                          refine zw_push zr_206_114 ?_
                          refine zw_4 zr_206_117 rfl ?_
                          refine zw_16 zr_206_119 (by omega) ?_
                          obtain ⟨f397, ef397⟩ : ∃ v, m0 70 820 = v := ⟨_, rfl⟩
                          have bf397 : 1 ≤ m0 70 820 ∧ m0 70 820 ≤ 9 := ib_70_weight hI0 (by omega)
                          rw [ef397] at bf397
                          refine zw_48k (c := 70) (len := 826) zr_206_120 rfl rfl (by omega) (by omega) (show ((818 + ((0 + 1) + 1)) : Int).toNat = 820 by omega) ef397 ?_
                          have qf397 : f397 = F70 ((818 + ((0 + 1) + 1)) : Int).toNat := by rw [show ((818 + ((0 + 1) + 1)) : Int).toNat = 820 by omega, ← hG70]; exact (ef397).symm
                          skip
                          refine zw_36 zr_206_121 ?_
                          refine zw_6 zr_206_122 rfl ?_
                          refine zw_29n (A := 9) (B := 99) zr_206_124 (by omega) (by omega) (by decide) ?_
                          intro x398 ex398 hx398a hx398b
                          skip
                          refine zw_6 zr_206_125 rfl ?_
                          refine zw_29n (A := 891) (B := 9801) zr_206_127 (by omega) (by omega) (by decide) ?_
                          intro x399 ex399 hx399a hx399b
                          skip
                          refine zw_27 zr_206_128 (by omega) ?_
                          refine zw_14 (L' := [(2, 69), (0, a0), (0, a1), (1, (((0 + x34) + x235) + x347)), (9, 0), (1, (((0 + x35) + x236) + x348)), (9, 0), (1, (x396 + x399)), (9, 0), (1, x344), (9, 0), (1, ((0 + f231) + f341)), (9, 0), (0, ((0 + 1) + 1)), (1, x347), (9, 0), (1, x348), (9, 0)]) zr_206_129 (Nat.le_of_ble_eq_true rfl) rfl ?_
                          refine zw_6 zr_206_131 rfl ?_
                          refine zw_6 zr_206_133 rfl ?_
                          refine zw_29s (A := 9801) (B := 99) zr_206_135 (by omega) (by omega) (by decide) ?_
                          intro x400 ex400 hx400a hx400b
                          skip
                          skip
                          refine zw_14 (L' := [(2, 69), (0, a0), (0, a1), (1, (((0 + x34) + x235) + x347)), (9, 0), (1, (((0 + x35) + x236) + x348)), (9, 0), (1, (x396 + x399)), (9, 0), (1, x400), (9, 0), (1, ((0 + f231) + f341)), (9, 0), (0, ((0 + 1) + 1)), (1, x347), (9, 0), (1, x348), (9, 0)]) zr_206_136 (Nat.le_of_ble_eq_true rfl) rfl ?_
                          refine zw_6 zr_206_138 rfl ?_
                          refine zw_7 zr_206_140 rfl ?_
                          refine zw_46r (s := 70) zr_206_141 rfl rfl rfl rfl ?_
                          refine zw_push zr_206_144 ?_
                          refine zw_4 zr_206_147 rfl ?_
                          refine zw_16 zr_206_149 (by omega) ?_
                          refine zw_48k (c := 70) (len := 826) zr_206_150 rfl rfl (by omega) (by omega) (show ((818 + ((0 + 1) + 1)) : Int).toNat = 820 by omega) ef397 ?_
                          have qf397 : f397 = F70 ((818 + ((0 + 1) + 1)) : Int).toNat := by rw [show ((818 + ((0 + 1) + 1)) : Int).toNat = 820 by omega, ← hG70]; exact (ef397).symm
                          refine zw_36 zr_206_151 ?_
                          refine zw_27 zr_206_152 (by omega) ?_
                          refine zw_14 (L' := [(2, 69), (0, a0), (0, a1), (1, (((0 + x34) + x235) + x347)), (9, 0), (1, (((0 + x35) + x236) + x348)), (9, 0), (1, (x396 + x399)), (9, 0), (1, x400), (9, 0), (1, (((0 + f231) + f341) + f397)), (9, 0), (0, ((0 + 1) + 1)), (1, x347), (9, 0), (1, x348), (9, 0)]) zr_206_153 (Nat.le_of_ble_eq_true rfl) rfl ?_
                          have hP3 := prs_r (R := (fun c => F70 (10 + 8 * a0.toNat + 2 * c))) (A := (fun c => F70 (11 + 8 * a0.toNat + 2 * c))) (W := (fun c => F70 (818 + c))) (k := 3) hP2 rfl (qx347.trans (congrArg F70 (by omega))) (qx348.trans (congrArg F70 (by omega))) (qf397.trans (congrArg F70 (by omega))) (by omega) ex396 ex398 ex399 ex400 ⟨rfl, rfl⟩
                          refine zw_15 (c := 1) (L' := [(2, 69), (0, a0), (0, a1), (1, (((0 + x34) + x235) + x347)), (9, 0), (1, (((0 + x35) + x236) + x348)), (9, 0), (1, (x396 + x399)), (9, 0), (1, x400), (9, 0), (1, (((0 + f231) + f341) + f397)), (9, 0), (0, (((0 + 1) + 1) + 1)), (1, x347), (9, 0), (1, x348), (9, 0)]) zr_206_155 rfl (by decide) (by omega) rfl ?_
                          refine zw_42 zr_206_158 ?_
                          skip
                          refine zw_4 zr_206_38 rfl ?_
                          refine zw_push zr_206_40 ?_
                          refine zw_41_3 zr_206_41 ?_ ?_
                          · intro h401; omega
                          · intro h402
                            refine zw_7 zr_206_44 rfl ?_
                            refine zw_46r (s := 70) zr_206_45 rfl rfl rfl rfl ?_
                            refine zw_push zr_206_48 ?_
                            refine zw_push zr_206_50 ?_
                            refine zw_3 zr_206_52 rfl ?_
                            refine zw_18 zr_206_53 (by omega) ?_
                            refine zw_16 zr_206_54 (by omega) ?_
                            refine zw_push zr_206_55 ?_
                            refine zw_4 zr_206_56 rfl ?_
                            refine zw_18 zr_206_58 (by omega) ?_
                            refine zw_16 zr_206_59 (by omega) ?_
                            refine zw_48 (c := 70) (len := 826) zr_206_60 rfl rfl (by omega) (by omega) ?_
                            intro x403 ex403
                            have bx403 := ib_70_moves hI0 (k := (((10 + (8 * a0)) + (2 * (((0 + 1) + 1) + 1)))).toNat) (by omega)
                            rw [← ex403] at bx403
                            have qx403 : x403 = F70 (((10 + (8 * a0)) + (2 * (((0 + 1) + 1) + 1)))).toNat := by rw [← hG70]; exact ex403
                            clear ex403
                            skip
                            refine zw_36 zr_206_61 ?_
                            refine zw_14 (L' := [(2, 69), (0, a0), (0, a1), (1, (((0 + x34) + x235) + x347)), (9, 0), (1, (((0 + x35) + x236) + x348)), (9, 0), (1, (x396 + x399)), (9, 0), (1, x400), (9, 0), (1, (((0 + f231) + f341) + f397)), (9, 0), (0, (((0 + 1) + 1) + 1)), (1, x403), (9, 0), (1, x348), (9, 0)]) zr_206_62 (Nat.le_of_ble_eq_true rfl) rfl ?_
                            refine zw_7 zr_206_64 rfl ?_
                            refine zw_46r (s := 70) zr_206_65 rfl rfl rfl rfl ?_
                            refine zw_push zr_206_68 ?_
                            refine zw_push zr_206_70 ?_
                            refine zw_3 zr_206_72 rfl ?_
                            refine zw_18 zr_206_73 (by omega) ?_
                            refine zw_16 zr_206_74 (by omega) ?_
                            refine zw_push zr_206_75 ?_
                            refine zw_4 zr_206_76 rfl ?_
                            refine zw_18 zr_206_78 (by omega) ?_
                            refine zw_16 zr_206_79 (by omega) ?_
                            refine zw_push zr_206_80 ?_
                            refine zw_16 zr_206_81 (by omega) ?_
                            refine zw_48 (c := 70) (len := 826) zr_206_82 rfl rfl (by omega) (by omega) ?_
                            intro x404 ex404
                            have bx404 := ib_70_moves hI0 (k := ((((10 + (8 * a0)) + (2 * (((0 + 1) + 1) + 1))) + 1)).toNat) (by omega)
                            rw [← ex404] at bx404
                            have qx404 : x404 = F70 ((((10 + (8 * a0)) + (2 * (((0 + 1) + 1) + 1))) + 1)).toNat := by rw [← hG70]; exact ex404
                            clear ex404
                            skip
                            skip
                            refine zw_36 zr_206_83 ?_
                            refine zw_14 (L' := [(2, 69), (0, a0), (0, a1), (1, (((0 + x34) + x235) + x347)), (9, 0), (1, (((0 + x35) + x236) + x348)), (9, 0), (1, (x396 + x399)), (9, 0), (1, x400), (9, 0), (1, (((0 + f231) + f341) + f397)), (9, 0), (0, (((0 + 1) + 1) + 1)), (1, x403), (9, 0), (1, x404), (9, 0)]) zr_206_84 (Nat.le_of_ble_eq_true rfl) rfl ?_
                            refine zw_6 zr_206_86 rfl ?_
                            refine zw_push zr_206_88 ?_
                            refine zw_39_5 zr_206_89 zr_206_90 ?_ ?_
                            · intro h405
                              have hP4 := prs_n (R := (fun c => F70 (10 + 8 * a0.toNat + 2 * c))) (A := (fun c => F70 (11 + 8 * a0.toNat + 2 * c))) (W := (fun c => F70 (818 + c))) (k := 4) hP3 rfl (qx404.trans (congrArg F70 (by omega))) (by omega)
                              refine zw_15 (c := 1) (L' := [(2, 69), (0, a0), (0, a1), (1, (((0 + x34) + x235) + x347)), (9, 0), (1, (((0 + x35) + x236) + x348)), (9, 0), (1, (x396 + x399)), (9, 0), (1, x400), (9, 0), (1, (((0 + f231) + f341) + f397)), (9, 0), (0, ((((0 + 1) + 1) + 1) + 1)), (1, x403), (9, 0), (1, x404), (9, 0)]) zr_206_155 rfl (by decide) (by omega) rfl ?_
                              refine zw_42 zr_206_158 ?_
                              skip
                              refine zw_4 zr_206_38 rfl ?_
                              refine zw_push zr_206_40 ?_
                              refine zw_41_3 zr_206_41 ?_ ?_
                              · intro h406
                                refine zw_6 zr_206_161 rfl ?_
                                refine zw_push zr_206_163 ?_
                                refine zw_39_4 zr_206_164 zr_206_165 ?_ ?_
                                · intro h407
                                  refine zw_3 zr_206_171 rfl ?_
                                  refine zw_40_4 zr_206_172 ?_ ?_
                                  · intro h408
                                    refine zw_7 zr_206_185 rfl ?_
                                    refine zw_6 zr_206_186 rfl ?_
                                    refine zw_6 zr_206_188 rfl ?_
                                    refine zw_6 zr_206_190 rfl ?_
                                    refine zw_29s (A := 970299) (B := 27) zr_206_192 (by omega) (by omega) (by decide) ?_
                                    intro x409 ex409 hx409a hx409b
                                    skip
                                    refine zw_C zr_206_193 (Or.inl rfl) zm_173 rfl rfl ⟨Nat.le_of_ble_eq_true rfl, Nat.le_of_ble_eq_true rfl, Nat.le_of_ble_eq_true rfl, rfl, by decide⟩ (by omega) (th_173 (d := d - 1) (by omega) hI0 (a0 := (x396 + x399)) (a1 := x409)      (by omega) (by omega) ) ?_
                                    rintro _ m410 ⟨rfl, hIm410, gm410, po0_m410⟩
                                    have hFm410 : zFr W_206 m0 m410 := hF0.trans gm410 rfl
                                    have km410_70_822 : m410 70 822 = g0 := (gm410 70 822 rfl).trans hg0
                                    have km410_70_818 : m410 70 818 = f231 := (gm410 70 818 rfl).trans ef231
                                    have km410_70_819 : m410 70 819 = f341 := (gm410 70 819 rfl).trans ef341
                                    have km410_70_820 : m410 70 820 = f397 := (gm410 70 820 rfl).trans ef397
                                    have fm410_70 : m410 70 = F70 := (funext fun k => gm410 70 k rfl).trans hG70
                                    obtain ⟨f411, ef411⟩ : ∃ v, m410 69 3 = v := ⟨_, rfl⟩
                                    have bf411 := hIm410.fl (c := 69) (k := 3) rfl
                                    rw [ef411] at bf411
                                    rw [ef411] at po0_m410
                                    obtain ⟨f412, ef412⟩ : ∃ v, m410 69 4 = v := ⟨_, rfl⟩
                                    have bf412 := hIm410.fl (c := 69) (k := 4) rfl
                                    rw [ef412] at bf412
                                    rw [ef412] at po0_m410
                                    show zW E (d) 206 196 [(2, 69), (0, a0), (0, a1), (1, (((0 + x34) + x235) + x347)), (9, 0), (1, (((0 + x35) + x236) + x348)), (9, 0), (1, (x396 + x399)), (9, 0), (1, x400), (9, 0), (1, (((0 + f231) + f341) + f397)), (9, 0), (0, ((((0 + 1) + 1) + 1) + 1)), (1, x403), (9, 0), (1, x404), (9, 0)] [] m410 Q
                                    have hF := prs_t hP4 ex409 po0_m410
                                    refine zw_push zr_206_196 ?_
                                    refine zw_R zr_206_197 (by decide) zm_206 (v := (0, 1)) rfl ?_
                                    rw [← hQ]; exact ⟨_, rfl, by omega, by omega, hIm410, hFm410, by omega, by first | exact Or.inr (Or.inr ⟨by decide, ef411, ef412⟩) | exact Or.inl ⟨rfl, by omega, by rw [ef411, ef412, show F70 (10 + 8 * a0 + 2 * 0).toNat + F70 (10 + 8 * a0 + 2 * (0 + 1)).toNat + F70 (10 + 8 * a0 + 2 * ((0 + 1) + 1)).toNat + F70 (10 + 8 * a0 + 2 * (((0 + 1) + 1) + 1)).toNat = (((0 + x34) + x235) + x347) by omega, show F70 (10 + 8 * a0 + 2 * 0 + 1).toNat + F70 (10 + 8 * a0 + 2 * (0 + 1) + 1).toNat + F70 (10 + 8 * a0 + 2 * ((0 + 1) + 1) + 1).toNat + F70 (10 + 8 * a0 + 2 * (((0 + 1) + 1) + 1) + 1).toNat = (((0 + x35) + x236) + x348) by omega]; exact po0_m410⟩ | exact Or.inr (Or.inl ⟨rfl, by omega, by rw [ef411, ef412]; exact hF⟩)⟩
                                  · intro h415
                                    refine zw_7 zr_206_175 rfl ?_
                                    refine zw_5 zr_206_176 rfl ?_
                                    refine zw_6 zr_206_177 rfl ?_
                                    refine zw_C zr_206_179 (Or.inl rfl) zm_173 rfl rfl ⟨Nat.le_of_ble_eq_true rfl, Nat.le_of_ble_eq_true rfl, Nat.le_of_ble_eq_true rfl, rfl, by decide⟩ (by omega) (th_173 (d := d - 1) (by omega) hI0 (a0 := (((0 + x34) + x235) + x347)) (a1 := (((0 + x35) + x236) + x348))      (by omega) (by omega) ) ?_
                                    rintro _ m416 ⟨rfl, hIm416, gm416, po0_m416⟩
                                    have hFm416 : zFr W_206 m0 m416 := hF0.trans gm416 rfl
                                    have km416_70_822 : m416 70 822 = g0 := (gm416 70 822 rfl).trans hg0
                                    have km416_70_818 : m416 70 818 = f231 := (gm416 70 818 rfl).trans ef231
                                    have km416_70_819 : m416 70 819 = f341 := (gm416 70 819 rfl).trans ef341
                                    have km416_70_820 : m416 70 820 = f397 := (gm416 70 820 rfl).trans ef397
                                    have fm416_70 : m416 70 = F70 := (funext fun k => gm416 70 k rfl).trans hG70
                                    obtain ⟨f417, ef417⟩ : ∃ v, m416 69 3 = v := ⟨_, rfl⟩
                                    have bf417 := hIm416.fl (c := 69) (k := 3) rfl
                                    rw [ef417] at bf417
                                    rw [ef417] at po0_m416
                                    obtain ⟨f418, ef418⟩ : ∃ v, m416 69 4 = v := ⟨_, rfl⟩
                                    have bf418 := hIm416.fl (c := 69) (k := 4) rfl
                                    rw [ef418] at bf418
                                    rw [ef418] at po0_m416
                                    show zW E (d) 206 182 [(2, 69), (0, a0), (0, a1), (1, (((0 + x34) + x235) + x347)), (9, 0), (1, (((0 + x35) + x236) + x348)), (9, 0), (1, (x396 + x399)), (9, 0), (1, x400), (9, 0), (1, (((0 + f231) + f341) + f397)), (9, 0), (0, ((((0 + 1) + 1) + 1) + 1)), (1, x403), (9, 0), (1, x404), (9, 0)] [] m416 Q
                                    skip
                                    refine zw_42 zr_206_182 ?_
                                    refine zw_push zr_206_196 ?_
                                    refine zw_R zr_206_197 (by decide) zm_206 (v := (0, 1)) rfl ?_
                                    rw [← hQ]; exact ⟨_, rfl, by omega, by omega, hIm416, hFm416, by omega, by first | exact Or.inr (Or.inr ⟨by decide, ef417, ef418⟩) | exact Or.inl ⟨rfl, by omega, by rw [ef417, ef418, show F70 (10 + 8 * a0 + 2 * 0).toNat + F70 (10 + 8 * a0 + 2 * (0 + 1)).toNat + F70 (10 + 8 * a0 + 2 * ((0 + 1) + 1)).toNat + F70 (10 + 8 * a0 + 2 * (((0 + 1) + 1) + 1)).toNat = (((0 + x34) + x235) + x347) by omega, show F70 (10 + 8 * a0 + 2 * 0 + 1).toNat + F70 (10 + 8 * a0 + 2 * (0 + 1) + 1).toNat + F70 (10 + 8 * a0 + 2 * ((0 + 1) + 1) + 1).toNat + F70 (10 + 8 * a0 + 2 * (((0 + 1) + 1) + 1) + 1).toNat = (((0 + x35) + x236) + x348) by omega]; exact po0_m416⟩ | exact Or.inr (Or.inl ⟨rfl, by omega, by rw [ef417, ef418]; exact hF⟩)⟩
                                · intro h421; omega
                              · intro h422; omega
                            · intro h423
                              refine zw_5 zr_206_93 rfl ?_
                              refine zw_6 zr_206_94 rfl ?_
                              refine zw_27 zr_206_96 (by omega) ?_
                              refine zw_13 (L' := [(2, 69), (0, a0), (0, a1), (1, ((((0 + x34) + x235) + x347) + x403)), (9, 0), (1, (((0 + x35) + x236) + x348)), (9, 0), (1, (x396 + x399)), (9, 0), (1, x400), (9, 0), (1, (((0 + f231) + f341) + f397)), (9, 0), (0, (((0 + 1) + 1) + 1)), (1, x403), (9, 0), (1, x404), (9, 0)]) zr_206_97 (Nat.le_of_ble_eq_true rfl) rfl ?_
                              refine zw_6 zr_206_98 rfl ?_
                              refine zw_6 zr_206_100 rfl ?_
                              refine zw_27 zr_206_102 (by omega) ?_
                              refine zw_14 (L' := [(2, 69), (0, a0), (0, a1), (1, ((((0 + x34) + x235) + x347) + x403)), (9, 0), (1, ((((0 + x35) + x236) + x348) + x404)), (9, 0), (1, (x396 + x399)), (9, 0), (1, x400), (9, 0), (1, (((0 + f231) + f341) + f397)), (9, 0), (0, (((0 + 1) + 1) + 1)), (1, x403), (9, 0), (1, x404), (9, 0)]) zr_206_103 (Nat.le_of_ble_eq_true rfl) rfl ?_
                              refine zw_6 zr_206_105 rfl ?_
                              refine zw_6 zr_206_107 rfl ?_
                              refine zw_29n (A := 26198073) (B := 99) zr_206_109 (by omega) (by omega) (by decide) ?_
                              intro x424 ex424 hx424a hx424b
                              skip
                              refine zw_7 zr_206_110 rfl ?_
                              refine zw_46r (s := 70) zr_206_111 rfl rfl rfl rfl ?_
                              refine zw_push zr_206_114 ?_
                              refine zw_4 zr_206_117 rfl ?_
                              refine zw_16 zr_206_119 (by omega) ?_
                              obtain ⟨f425, ef425⟩ : ∃ v, m0 70 821 = v := ⟨_, rfl⟩
                              have bf425 : 1 ≤ m0 70 821 ∧ m0 70 821 ≤ 9 := ib_70_weight hI0 (by omega)
                              rw [ef425] at bf425
                              refine zw_48k (c := 70) (len := 826) zr_206_120 rfl rfl (by omega) (by omega) (show ((818 + (((0 + 1) + 1) + 1)) : Int).toNat = 821 by omega) ef425 ?_
                              have qf425 : f425 = F70 ((818 + (((0 + 1) + 1) + 1)) : Int).toNat := by rw [show ((818 + (((0 + 1) + 1) + 1)) : Int).toNat = 821 by omega, ← hG70]; exact (ef425).symm
                              skip
                              refine zw_36 zr_206_121 ?_
                              refine zw_6 zr_206_122 rfl ?_
                              refine zw_29n (A := 9) (B := 99) zr_206_124 (by omega) (by omega) (by decide) ?_
                              intro x426 ex426 hx426a hx426b
                              skip
                              refine zw_6 zr_206_125 rfl ?_
                              refine zw_29n (A := 891) (B := 970299) zr_206_127 (by omega) (by omega) (by decide) ?_
                              intro x427 ex427 hx427a hx427b
                              skip
                              refine zw_27 zr_206_128 (by omega) ?_
                              refine zw_14 (L' := [(2, 69), (0, a0), (0, a1), (1, ((((0 + x34) + x235) + x347) + x403)), (9, 0), (1, ((((0 + x35) + x236) + x348) + x404)), (9, 0), (1, (x424 + x427)), (9, 0), (1, x400), (9, 0), (1, (((0 + f231) + f341) + f397)), (9, 0), (0, (((0 + 1) + 1) + 1)), (1, x403), (9, 0), (1, x404), (9, 0)]) zr_206_129 (Nat.le_of_ble_eq_true rfl) rfl ?_
                              refine zw_6 zr_206_131 rfl ?_
                              refine zw_6 zr_206_133 rfl ?_
                              refine zw_29s (A := 970299) (B := 99) zr_206_135 (by omega) (by omega) (by decide) ?_
                              intro x428 ex428 hx428a hx428b
                              skip
                              skip
                              refine zw_14 (L' := [(2, 69), (0, a0), (0, a1), (1, ((((0 + x34) + x235) + x347) + x403)), (9, 0), (1, ((((0 + x35) + x236) + x348) + x404)), (9, 0), (1, (x424 + x427)), (9, 0), (1, x428), (9, 0), (1, (((0 + f231) + f341) + f397)), (9, 0), (0, (((0 + 1) + 1) + 1)), (1, x403), (9, 0), (1, x404), (9, 0)]) zr_206_136 (Nat.le_of_ble_eq_true rfl) rfl ?_
                              refine zw_6 zr_206_138 rfl ?_
                              refine zw_7 zr_206_140 rfl ?_
                              refine zw_46r (s := 70) zr_206_141 rfl rfl rfl rfl ?_
                              refine zw_push zr_206_144 ?_
                              refine zw_4 zr_206_147 rfl ?_
                              refine zw_16 zr_206_149 (by omega) ?_
                              refine zw_48k (c := 70) (len := 826) zr_206_150 rfl rfl (by omega) (by omega) (show ((818 + (((0 + 1) + 1) + 1)) : Int).toNat = 821 by omega) ef425 ?_
                              have qf425 : f425 = F70 ((818 + (((0 + 1) + 1) + 1)) : Int).toNat := by rw [show ((818 + (((0 + 1) + 1) + 1)) : Int).toNat = 821 by omega, ← hG70]; exact (ef425).symm
                              refine zw_36 zr_206_151 ?_
                              refine zw_27 zr_206_152 (by omega) ?_
                              refine zw_14 (L' := [(2, 69), (0, a0), (0, a1), (1, ((((0 + x34) + x235) + x347) + x403)), (9, 0), (1, ((((0 + x35) + x236) + x348) + x404)), (9, 0), (1, (x424 + x427)), (9, 0), (1, x428), (9, 0), (1, ((((0 + f231) + f341) + f397) + f425)), (9, 0), (0, (((0 + 1) + 1) + 1)), (1, x403), (9, 0), (1, x404), (9, 0)]) zr_206_153 (Nat.le_of_ble_eq_true rfl) rfl ?_
                              have hP4 := prs_r (R := (fun c => F70 (10 + 8 * a0.toNat + 2 * c))) (A := (fun c => F70 (11 + 8 * a0.toNat + 2 * c))) (W := (fun c => F70 (818 + c))) (k := 4) hP3 rfl (qx403.trans (congrArg F70 (by omega))) (qx404.trans (congrArg F70 (by omega))) (qf425.trans (congrArg F70 (by omega))) (by omega) ex424 ex426 ex427 ex428 ⟨rfl, rfl⟩
                              refine zw_15 (c := 1) (L' := [(2, 69), (0, a0), (0, a1), (1, ((((0 + x34) + x235) + x347) + x403)), (9, 0), (1, ((((0 + x35) + x236) + x348) + x404)), (9, 0), (1, (x424 + x427)), (9, 0), (1, x428), (9, 0), (1, ((((0 + f231) + f341) + f397) + f425)), (9, 0), (0, ((((0 + 1) + 1) + 1) + 1)), (1, x403), (9, 0), (1, x404), (9, 0)]) zr_206_155 rfl (by decide) (by omega) rfl ?_
                              refine zw_42 zr_206_158 ?_
                              skip
                              refine zw_4 zr_206_38 rfl ?_
                              refine zw_push zr_206_40 ?_
                              refine zw_41_3 zr_206_41 ?_ ?_
                              · intro h429
                                refine zw_6 zr_206_161 rfl ?_
                                refine zw_push zr_206_163 ?_
                                refine zw_39_4 zr_206_164 zr_206_165 ?_ ?_
                                · intro h430
                                  refine zw_3 zr_206_171 rfl ?_
                                  refine zw_40_4 zr_206_172 ?_ ?_
                                  · intro h431
                                    refine zw_7 zr_206_185 rfl ?_
                                    refine zw_6 zr_206_186 rfl ?_
                                    refine zw_6 zr_206_188 rfl ?_
                                    refine zw_6 zr_206_190 rfl ?_
                                    refine zw_29s (A := 96059601) (B := 36) zr_206_192 (by omega) (by omega) (by decide) ?_
                                    intro x432 ex432 hx432a hx432b
                                    skip
                                    refine zw_C zr_206_193 (Or.inl rfl) zm_173 rfl rfl ⟨Nat.le_of_ble_eq_true rfl, Nat.le_of_ble_eq_true rfl, Nat.le_of_ble_eq_true rfl, rfl, by decide⟩ (by omega) (th_173 (d := d - 1) (by omega) hI0 (a0 := (x424 + x427)) (a1 := x432)      (by omega) (by omega) ) ?_
                                    rintro _ m433 ⟨rfl, hIm433, gm433, po0_m433⟩
                                    have hFm433 : zFr W_206 m0 m433 := hF0.trans gm433 rfl
                                    have km433_70_822 : m433 70 822 = g0 := (gm433 70 822 rfl).trans hg0
                                    have km433_70_818 : m433 70 818 = f231 := (gm433 70 818 rfl).trans ef231
                                    have km433_70_819 : m433 70 819 = f341 := (gm433 70 819 rfl).trans ef341
                                    have km433_70_820 : m433 70 820 = f397 := (gm433 70 820 rfl).trans ef397
                                    have km433_70_821 : m433 70 821 = f425 := (gm433 70 821 rfl).trans ef425
                                    have fm433_70 : m433 70 = F70 := (funext fun k => gm433 70 k rfl).trans hG70
                                    obtain ⟨f434, ef434⟩ : ∃ v, m433 69 3 = v := ⟨_, rfl⟩
                                    have bf434 := hIm433.fl (c := 69) (k := 3) rfl
                                    rw [ef434] at bf434
                                    rw [ef434] at po0_m433
                                    obtain ⟨f435, ef435⟩ : ∃ v, m433 69 4 = v := ⟨_, rfl⟩
                                    have bf435 := hIm433.fl (c := 69) (k := 4) rfl
                                    rw [ef435] at bf435
                                    rw [ef435] at po0_m433
                                    show zW E (d) 206 196 [(2, 69), (0, a0), (0, a1), (1, ((((0 + x34) + x235) + x347) + x403)), (9, 0), (1, ((((0 + x35) + x236) + x348) + x404)), (9, 0), (1, (x424 + x427)), (9, 0), (1, x428), (9, 0), (1, ((((0 + f231) + f341) + f397) + f425)), (9, 0), (0, ((((0 + 1) + 1) + 1) + 1)), (1, x403), (9, 0), (1, x404), (9, 0)] [] m433 Q
                                    have hF := prs_t hP4 ex432 po0_m433
                                    refine zw_push zr_206_196 ?_
                                    refine zw_R zr_206_197 (by decide) zm_206 (v := (0, 1)) rfl ?_
                                    rw [← hQ]; exact ⟨_, rfl, by omega, by omega, hIm433, hFm433, by omega, by first | exact Or.inr (Or.inr ⟨by decide, ef434, ef435⟩) | exact Or.inl ⟨rfl, by omega, by rw [ef434, ef435, show F70 (10 + 8 * a0 + 2 * 0).toNat + F70 (10 + 8 * a0 + 2 * (0 + 1)).toNat + F70 (10 + 8 * a0 + 2 * ((0 + 1) + 1)).toNat + F70 (10 + 8 * a0 + 2 * (((0 + 1) + 1) + 1)).toNat = ((((0 + x34) + x235) + x347) + x403) by omega, show F70 (10 + 8 * a0 + 2 * 0 + 1).toNat + F70 (10 + 8 * a0 + 2 * (0 + 1) + 1).toNat + F70 (10 + 8 * a0 + 2 * ((0 + 1) + 1) + 1).toNat + F70 (10 + 8 * a0 + 2 * (((0 + 1) + 1) + 1) + 1).toNat = ((((0 + x35) + x236) + x348) + x404) by omega]; exact po0_m433⟩ | exact Or.inr (Or.inl ⟨rfl, by omega, by rw [ef434, ef435]; exact hF⟩)⟩
                                  · intro h438
                                    refine zw_7 zr_206_175 rfl ?_
                                    refine zw_5 zr_206_176 rfl ?_
                                    refine zw_6 zr_206_177 rfl ?_
                                    refine zw_C zr_206_179 (Or.inl rfl) zm_173 rfl rfl ⟨Nat.le_of_ble_eq_true rfl, Nat.le_of_ble_eq_true rfl, Nat.le_of_ble_eq_true rfl, rfl, by decide⟩ (by omega) (th_173 (d := d - 1) (by omega) hI0 (a0 := ((((0 + x34) + x235) + x347) + x403)) (a1 := ((((0 + x35) + x236) + x348) + x404))      (by omega) (by omega) ) ?_
                                    rintro _ m439 ⟨rfl, hIm439, gm439, po0_m439⟩
                                    have hFm439 : zFr W_206 m0 m439 := hF0.trans gm439 rfl
                                    have km439_70_822 : m439 70 822 = g0 := (gm439 70 822 rfl).trans hg0
                                    have km439_70_818 : m439 70 818 = f231 := (gm439 70 818 rfl).trans ef231
                                    have km439_70_819 : m439 70 819 = f341 := (gm439 70 819 rfl).trans ef341
                                    have km439_70_820 : m439 70 820 = f397 := (gm439 70 820 rfl).trans ef397
                                    have km439_70_821 : m439 70 821 = f425 := (gm439 70 821 rfl).trans ef425
                                    have fm439_70 : m439 70 = F70 := (funext fun k => gm439 70 k rfl).trans hG70
                                    obtain ⟨f440, ef440⟩ : ∃ v, m439 69 3 = v := ⟨_, rfl⟩
                                    have bf440 := hIm439.fl (c := 69) (k := 3) rfl
                                    rw [ef440] at bf440
                                    rw [ef440] at po0_m439
                                    obtain ⟨f441, ef441⟩ : ∃ v, m439 69 4 = v := ⟨_, rfl⟩
                                    have bf441 := hIm439.fl (c := 69) (k := 4) rfl
                                    rw [ef441] at bf441
                                    rw [ef441] at po0_m439
                                    show zW E (d) 206 182 [(2, 69), (0, a0), (0, a1), (1, ((((0 + x34) + x235) + x347) + x403)), (9, 0), (1, ((((0 + x35) + x236) + x348) + x404)), (9, 0), (1, (x424 + x427)), (9, 0), (1, x428), (9, 0), (1, ((((0 + f231) + f341) + f397) + f425)), (9, 0), (0, ((((0 + 1) + 1) + 1) + 1)), (1, x403), (9, 0), (1, x404), (9, 0)] [] m439 Q
                                    skip
                                    refine zw_42 zr_206_182 ?_
                                    refine zw_push zr_206_196 ?_
                                    refine zw_R zr_206_197 (by decide) zm_206 (v := (0, 1)) rfl ?_
                                    rw [← hQ]; exact ⟨_, rfl, by omega, by omega, hIm439, hFm439, by omega, by first | exact Or.inr (Or.inr ⟨by decide, ef440, ef441⟩) | exact Or.inl ⟨rfl, by omega, by rw [ef440, ef441, show F70 (10 + 8 * a0 + 2 * 0).toNat + F70 (10 + 8 * a0 + 2 * (0 + 1)).toNat + F70 (10 + 8 * a0 + 2 * ((0 + 1) + 1)).toNat + F70 (10 + 8 * a0 + 2 * (((0 + 1) + 1) + 1)).toNat = ((((0 + x34) + x235) + x347) + x403) by omega, show F70 (10 + 8 * a0 + 2 * 0 + 1).toNat + F70 (10 + 8 * a0 + 2 * (0 + 1) + 1).toNat + F70 (10 + 8 * a0 + 2 * ((0 + 1) + 1) + 1).toNat + F70 (10 + 8 * a0 + 2 * (((0 + 1) + 1) + 1) + 1).toNat = ((((0 + x35) + x236) + x348) + x404) by omega]; exact po0_m439⟩ | exact Or.inr (Or.inl ⟨rfl, by omega, by rw [ef440, ef441]; exact hF⟩)⟩
                                · intro h444; omega
                              · intro h445; omega
            · intro h446; omega
