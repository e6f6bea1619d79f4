abbrev W_103 : List (Nat × Nat) := [(1, 2), (1, 3)]
set_option maxHeartbeats 8000000 in
theorem th_103 {E : zE} {d : Nat} {m0 : zM} {a0 : Int} {a1 : Int} {a2 : Int} {g0 : Int} {g1 : Int} {g2 : Int} (hd : 2 ≤ d) (hI0 : zInv m0) (hg0 : m0 1 1 = g0) (hg1 : m0 1 2 = g1) (hg2 : m0 1 3 = g2) (ha0 : (-2147483648) ≤ a0 ∧ a0 ≤ 2147483647) (ha1 : (-2147483648) ≤ a1 ∧ a1 ≤ 2147483647) (ha2 : 0 ≤ a2 ∧ a2 ≤ 1) : zC E d 103 [(2, 0), (0, a0), (0, a1), (0, a2)] m0 (fun v m' => ∃ r : Int, v = (0, r) ∧ (-3) ≤ r ∧ r ≤ 1 ∧ zInv m' ∧ zFr W_103 m0 m' ∧ (0 ≤ a2 ∧ a2 ≤ 1) ∧ ((r = -2 ∧ (a0 < 0 ∨ g0 ≤ a0 ∨ a1 < 0 ∨ 1 < a1)) ∨ (0 ≤ a0 ∧ a0 < g0 ∧ 0 ≤ a1 ∧ a1 ≤ 1 ∧ a1 = 0 ∧ ((r = -3 ∧ zbt g1 a0.toNat = a2) ∨ (r = 1 ∧ zbt g1 a0.toNat ≠ a2))) ∨ (0 ≤ a0 ∧ a0 < g0 ∧ 0 ≤ a1 ∧ a1 ≤ 1 ∧ a1 = 1 ∧ ((r = -3 ∧ zbt g2 a0.toNat = a2) ∨ (r = 1 ∧ zbt g2 a0.toNat ≠ a2)))) ∧ ((r = 1 ∧ a1 = 0 ∧ m' 1 2 = ztg g1 a0.toNat ∧ m' 1 3 = g2) ∨ (r = 1 ∧ a1 = 1 ∧ m' 1 2 = g1 ∧ m' 1 3 = ztg g2 a0.toNat) ∨ (r ≠ 1 ∧ m' 1 2 = g1 ∧ m' 1 3 = g2))) := by
  have hF0 : zFr W_103 m0 m0 := zFr.rfl
  have bg0 := ib_1_1 hI0
  rw [hg0] at bg0
  have bg1 := ib_1_2 hI0
  rw [hg1] at bg1
  have bg2 := ib_1_3 hI0
  rw [hg2] at bg2
  generalize hQ : (fun (v : zV) (m' : zM) => ∃ r : Int, v = (0, r) ∧ (-3) ≤ r ∧ r ≤ 1 ∧ zInv m' ∧ zFr W_103 m0 m' ∧ (0 ≤ a2 ∧ a2 ≤ 1) ∧ ((r = -2 ∧ (a0 < 0 ∨ g0 ≤ a0 ∨ a1 < 0 ∨ 1 < a1)) ∨ (0 ≤ a0 ∧ a0 < g0 ∧ 0 ≤ a1 ∧ a1 ≤ 1 ∧ a1 = 0 ∧ ((r = -3 ∧ zbt g1 a0.toNat = a2) ∨ (r = 1 ∧ zbt g1 a0.toNat ≠ a2))) ∨ (0 ≤ a0 ∧ a0 < g0 ∧ 0 ≤ a1 ∧ a1 ≤ 1 ∧ a1 = 1 ∧ ((r = -3 ∧ zbt g2 a0.toNat = a2) ∨ (r = 1 ∧ zbt g2 a0.toNat ≠ a2)))) ∧ ((r = 1 ∧ a1 = 0 ∧ m' 1 2 = ztg g1 a0.toNat ∧ m' 1 3 = g2) ∨ (r = 1 ∧ a1 = 1 ∧ m' 1 2 = g1 ∧ m' 1 3 = ztg g2 a0.toNat) ∨ (r ≠ 1 ∧ m' 1 2 = g1 ∧ m' 1 3 = g2))) = Q
  show zW E d 103 0 [(2, 0), (0, a0), (0, a1), (0, a2), (9, 0), (9, 0), (9, 0), (9, 0)] [] m0 Q
  have z1 := zbt_01 g1 a0.toNat
  have z2 := zbt_01 g2 a0.toNat
  refine zw_3 zr_103_0 rfl ?_
  refine zw_push zr_103_1 ?_
  refine zw_7 zr_103_2 rfl ?_
  refine zw_46r (s := 1) zr_103_3 rfl rfl rfl rfl ?_
  refine zw_46i zr_103_6 hg0 rfl rfl rfl ?_
  refine zw_push zr_103_9 ?_
  refine zw_17 zr_103_10 (by omega) ?_
  refine zw_C zr_103_11 (Or.inr rfl) zm_100 rfl rfl ⟨Nat.le_of_ble_eq_true rfl, Nat.le_of_ble_eq_true rfl, Nat.le_of_ble_eq_true rfl, rfl, by decide⟩ (by omega) (P := (fun v m' => zW E (d) 103 14 [(2, 0), (0, a0), (0, a1), (0, a2), (9, 0), (9, 0), (9, 0), (9, 0)] (if v.1 = 9 then [] else v :: []) m' Q)) ?_ (fun _ _ h => h)
  generalize hQ1 : (fun v m' => zW E (d) 103 14 [(2, 0), (0, a0), (0, a1), (0, a2), (9, 0), (9, 0), (9, 0), (9, 0)] (if v.1 = 9 then [] else v :: []) m' Q) = Q1
  show zW E (d - 1) 100 0 [(0, a0), (0, 0), (0, (g0 - 1))] [] m0 Q1
  refine zw_3 zr_100_0 rfl ?_
  refine zw_3 zr_100_1 rfl ?_
  refine zw_41_0 zr_100_2 ?_ ?_
  · intro h3
    refine zw_push zr_100_14 ?_
    refine zw_R zr_100_15 (by decide) zm_100 (v := (0, 0)) (zRetB (by omega)) ?_
    rw [← hQ1]
    show zW E (d) 103 14 [(2, 0), (0, a0), (0, a1), (0, a2), (9, 0), (9, 0), (9, 0), (9, 0)] [(0, 0)] m0 Q
    refine zw_40_1 zr_103_14 ?_ ?_
    · intro h4
      refine zw_push zr_103_26 ?_
      refine zw_R zr_103_28 (by decide) zm_103 (v := (0, (-2))) rfl ?_
      rw [← hQ]; exact ⟨_, rfl, by omega, by omega, hI0, hF0, by omega, by omega, by omega⟩
    · intro h8; omega
  · intro h9
    refine zw_3 zr_100_5 rfl ?_
    refine zw_3 zr_100_6 rfl ?_
    refine zw_41_2 zr_100_7 ?_ ?_
    · intro h10
      refine zw_push zr_100_14 ?_
      refine zw_R zr_100_15 (by decide) zm_100 (v := (0, 0)) (zRetB (by omega)) ?_
      rw [← hQ1]
      show zW E (d) 103 14 [(2, 0), (0, a0), (0, a1), (0, a2), (9, 0), (9, 0), (9, 0), (9, 0)] [(0, 0)] m0 Q
      refine zw_40_1 zr_103_14 ?_ ?_
      · intro h11
        refine zw_push zr_103_26 ?_
        refine zw_R zr_103_28 (by decide) zm_103 (v := (0, (-2))) rfl ?_
        rw [← hQ]; exact ⟨_, rfl, by omega, by omega, hI0, hF0, by omega, by omega, by omega⟩
      · intro h15; omega
    · intro h16
      refine zw_push zr_100_10 ?_
      refine zw_42 zr_100_11 ?_
      refine zw_R zr_100_15 (by decide) zm_100 (v := (0, 1)) (zRetB (by omega)) ?_
      rw [← hQ1]
      show zW E (d) 103 14 [(2, 0), (0, a0), (0, a1), (0, a2), (9, 0), (9, 0), (9, 0), (9, 0)] [(0, 1)] m0 Q
      refine zw_40_1 zr_103_14 ?_ ?_
      · intro h17; omega
      · intro h18
        refine zw_3 zr_103_17 rfl ?_
        refine zw_push zr_103_18 ?_
        refine zw_push zr_103_19 ?_
        refine zw_C zr_103_20 (Or.inr rfl) zm_100 rfl rfl ⟨Nat.le_of_ble_eq_true rfl, Nat.le_of_ble_eq_true rfl, Nat.le_of_ble_eq_true rfl, rfl, by decide⟩ (by omega) (P := (fun v m' => zW E (d) 103 23 [(2, 0), (0, a0), (0, a1), (0, a2), (9, 0), (9, 0), (9, 0), (9, 0)] (if v.1 = 9 then [] else v :: []) m' Q)) ?_ (fun _ _ h => h)
        generalize hQ1 : (fun v m' => zW E (d) 103 23 [(2, 0), (0, a0), (0, a1), (0, a2), (9, 0), (9, 0), (9, 0), (9, 0)] (if v.1 = 9 then [] else v :: []) m' Q) = Q1
        show zW E (d - 1) 100 0 [(0, a1), (0, 0), (0, 1)] [] m0 Q1
        refine zw_3 zr_100_0 rfl ?_
        refine zw_3 zr_100_1 rfl ?_
        refine zw_41_0 zr_100_2 ?_ ?_
        · intro h19
          refine zw_push zr_100_14 ?_
          refine zw_R zr_100_15 (by decide) zm_100 (v := (0, 0)) (zRetB (by omega)) ?_
          rw [← hQ1]
          show zW E (d) 103 23 [(2, 0), (0, a0), (0, a1), (0, a2), (9, 0), (9, 0), (9, 0), (9, 0)] [(0, 0)] m0 Q
          refine zw_40_4 zr_103_23 ?_ ?_
          · intro h20; omega
          · intro h21
            refine zw_push zr_103_26 ?_
            refine zw_R zr_103_28 (by decide) zm_103 (v := (0, (-2))) rfl ?_
            rw [← hQ]; exact ⟨_, rfl, by omega, by omega, hI0, hF0, by omega, by omega, by omega⟩
        · intro h25
          refine zw_3 zr_100_5 rfl ?_
          refine zw_3 zr_100_6 rfl ?_
          refine zw_41_2 zr_100_7 ?_ ?_
          · intro h26
            refine zw_push zr_100_14 ?_
            refine zw_R zr_100_15 (by decide) zm_100 (v := (0, 0)) (zRetB (by omega)) ?_
            rw [← hQ1]
            show zW E (d) 103 23 [(2, 0), (0, a0), (0, a1), (0, a2), (9, 0), (9, 0), (9, 0), (9, 0)] [(0, 0)] m0 Q
            refine zw_40_4 zr_103_23 ?_ ?_
            · intro h27; omega
            · intro h28
              refine zw_push zr_103_26 ?_
              refine zw_R zr_103_28 (by decide) zm_103 (v := (0, (-2))) rfl ?_
              rw [← hQ]; exact ⟨_, rfl, by omega, by omega, hI0, hF0, by omega, by omega, by omega⟩
          · intro h32
            refine zw_push zr_100_10 ?_
            refine zw_42 zr_100_11 ?_
            refine zw_R zr_100_15 (by decide) zm_100 (v := (0, 1)) (zRetB (by omega)) ?_
            rw [← hQ1]
            show zW E (d) 103 23 [(2, 0), (0, a0), (0, a1), (0, a2), (9, 0), (9, 0), (9, 0), (9, 0)] [(0, 1)] m0 Q
            refine zw_40_4 zr_103_23 ?_ ?_
            · intro h33
              refine zw_push zr_103_29 ?_
              refine zw_3 zr_103_30 rfl ?_
              refine zw_33p zr_103_31 (by omega) ?_
              intro x34 ex34 hx34a hx34b
              refine zw_14 (L' := [(2, 0), (0, a0), (0, a1), (0, a2), (1, x34), (9, 0), (9, 0), (9, 0)]) zr_103_32 (Nat.le_of_ble_eq_true rfl) rfl ?_
              refine zw_3 zr_103_34 rfl ?_
              refine zw_40_4 zr_103_35 ?_ ?_
              · intro h35
                refine zw_7 zr_103_48 rfl ?_
                refine zw_46r (s := 1) zr_103_49 rfl rfl rfl rfl ?_
                refine zw_46l zr_103_52 hg2 rfl rfl rfl ?_
                refine zw_14 (L' := [(2, 0), (0, a0), (0, a1), (0, a2), (1, x34), (9, 0), (1, g2), (9, 0)]) zr_103_55 (Nat.le_of_ble_eq_true rfl) rfl ?_
                refine zw_6 zr_103_57 rfl ?_
                refine zw_6 zr_103_59 rfl ?_
                refine zw_30p (s := a0) zr_103_61 ex34 (by omega) (by omega) ?_
                intro x36 hx36a
                refine zw_push zr_103_62 ?_
                refine zw_39_1 zr_103_63 zr_103_64 ?_ ?_
                · intro h37
                  refine zw_push zr_103_71 ?_
                  refine zw_3 zr_103_72 rfl ?_
                  refine zw_41_4 zr_103_73 ?_ ?_
                  · intro h38
                    refine zw_3 zr_103_79 rfl ?_
                    refine zw_40_4 zr_103_80 ?_ ?_
                    · intro h39
                      refine zw_7 zr_103_100 rfl ?_
                      refine zw_46r (s := 1) zr_103_101 rfl rfl rfl rfl ?_
                      refine zw_43 zr_103_104 rfl ?_
                      refine zw_46l zr_103_105 hg2 rfl rfl rfl ?_
                      refine zw_6 zr_103_108 rfl ?_
                      refine zw_32p (s := a0) zr_103_110 ex34 (by omega) (by omega) ?_
                      intro x40 ex40 hx40a hx40b
                      refine zw_47 (c := 1) zr_103_111 rfl ⟨rfl, by decide, rfl⟩ ?_
                      intro m41 em41
                      have hIm41 : zInv m41 := by rw [em41]; exact hI0.bdl (r := 1) (k := 3) (lo := 0) (hi := 1152921504606846975) rfl (by omega) (by decide) (by decide) (by decide) (by decide)
                      have hFm41 : zFr W_103 m0 m41 := by rw [em41]; exact hF0.up rfl
                      have km41_1_1 : m41 1 1 = g0 := by rw [em41, zUp_ne (by omega)]; exact hg0
                      have km41_1_2 : m41 1 2 = g1 := by rw [em41, zUp_ne (by omega)]; exact hg1
                      have km41_1_3 : m41 1 3 = x40 := by rw [em41]; exact zUp_eq _ _ _ _
                      clear em41
                      refine zw_push zr_103_114 ?_
                      refine zw_R zr_103_115 (by decide) zm_103 (v := (0, 1)) rfl ?_
                      rw [← hQ]; exact ⟨_, rfl, by omega, by omega, hIm41, hFm41, by omega, by omega, by omega⟩
                    · intro h45; omega
                  · intro h46
                    refine zw_push zr_103_76 ?_
                    refine zw_R zr_103_78 (by decide) zm_103 (v := (0, (-3))) rfl ?_
                    rw [← hQ]; exact ⟨_, rfl, by omega, by omega, hI0, hF0, by omega, by omega, by omega⟩
                · intro h50
                  refine zw_push zr_103_67 ?_
                  refine zw_42 zr_103_68 ?_
                  refine zw_3 zr_103_72 rfl ?_
                  refine zw_41_4 zr_103_73 ?_ ?_
                  · intro h51
                    refine zw_3 zr_103_79 rfl ?_
                    refine zw_40_4 zr_103_80 ?_ ?_
                    · intro h52
                      refine zw_7 zr_103_100 rfl ?_
                      refine zw_46r (s := 1) zr_103_101 rfl rfl rfl rfl ?_
                      refine zw_43 zr_103_104 rfl ?_
                      refine zw_46l zr_103_105 hg2 rfl rfl rfl ?_
                      refine zw_6 zr_103_108 rfl ?_
                      refine zw_32p (s := a0) zr_103_110 ex34 (by omega) (by omega) ?_
                      intro x53 ex53 hx53a hx53b
                      refine zw_47 (c := 1) zr_103_111 rfl ⟨rfl, by decide, rfl⟩ ?_
                      intro m54 em54
                      have hIm54 : zInv m54 := by rw [em54]; exact hI0.bdl (r := 1) (k := 3) (lo := 0) (hi := 1152921504606846975) rfl (by omega) (by decide) (by decide) (by decide) (by decide)
                      have hFm54 : zFr W_103 m0 m54 := by rw [em54]; exact hF0.up rfl
                      have km54_1_1 : m54 1 1 = g0 := by rw [em54, zUp_ne (by omega)]; exact hg0
                      have km54_1_2 : m54 1 2 = g1 := by rw [em54, zUp_ne (by omega)]; exact hg1
                      have km54_1_3 : m54 1 3 = x53 := by rw [em54]; exact zUp_eq _ _ _ _
                      clear em54
                      refine zw_push zr_103_114 ?_
                      refine zw_R zr_103_115 (by decide) zm_103 (v := (0, 1)) rfl ?_
                      rw [← hQ]; exact ⟨_, rfl, by omega, by omega, hIm54, hFm54, by omega, by omega, by omega⟩
                    · intro h58; omega
                  · intro h59
                    refine zw_push zr_103_76 ?_
                    refine zw_R zr_103_78 (by decide) zm_103 (v := (0, (-3))) rfl ?_
                    rw [← hQ]; exact ⟨_, rfl, by omega, by omega, hI0, hF0, by omega, by omega, by omega⟩
              · intro h63
                refine zw_7 zr_103_38 rfl ?_
                refine zw_46r (s := 1) zr_103_39 rfl rfl rfl rfl ?_
                refine zw_46l zr_103_42 hg1 rfl rfl rfl ?_
                refine zw_42 zr_103_45 ?_
                refine zw_14 (L' := [(2, 0), (0, a0), (0, a1), (0, a2), (1, x34), (9, 0), (1, g1), (9, 0)]) zr_103_55 (Nat.le_of_ble_eq_true rfl) rfl ?_
                refine zw_6 zr_103_57 rfl ?_
                refine zw_6 zr_103_59 rfl ?_
                refine zw_30p (s := a0) zr_103_61 ex34 (by omega) (by omega) ?_
                intro x64 hx64a
                refine zw_push zr_103_62 ?_
                refine zw_39_1 zr_103_63 zr_103_64 ?_ ?_
                · intro h65
                  refine zw_push zr_103_71 ?_
                  refine zw_3 zr_103_72 rfl ?_
                  refine zw_41_4 zr_103_73 ?_ ?_
                  · intro h66
                    refine zw_3 zr_103_79 rfl ?_
                    refine zw_40_4 zr_103_80 ?_ ?_
                    · intro h67; omega
                    · intro h68
                      refine zw_7 zr_103_83 rfl ?_
                      refine zw_46r (s := 1) zr_103_84 rfl rfl rfl rfl ?_
                      refine zw_43 zr_103_87 rfl ?_
                      refine zw_46l zr_103_88 hg1 rfl rfl rfl ?_
                      refine zw_6 zr_103_91 rfl ?_
                      refine zw_32p (s := a0) zr_103_93 ex34 (by omega) (by omega) ?_
                      intro x69 ex69 hx69a hx69b
                      refine zw_47 (c := 1) zr_103_94 rfl ⟨rfl, by decide, rfl⟩ ?_
                      intro m70 em70
                      have hIm70 : zInv m70 := by rw [em70]; exact hI0.bdl (r := 1) (k := 2) (lo := 0) (hi := 1152921504606846975) rfl (by omega) (by decide) (by decide) (by decide) (by decide)
                      have hFm70 : zFr W_103 m0 m70 := by rw [em70]; exact hF0.up rfl
                      have km70_1_1 : m70 1 1 = g0 := by rw [em70, zUp_ne (by omega)]; exact hg0
                      have km70_1_3 : m70 1 3 = g2 := by rw [em70, zUp_ne (by omega)]; exact hg2
                      have km70_1_2 : m70 1 2 = x69 := by rw [em70]; exact zUp_eq _ _ _ _
                      clear em70
                      refine zw_42 zr_103_97 ?_
                      refine zw_push zr_103_114 ?_
                      refine zw_R zr_103_115 (by decide) zm_103 (v := (0, 1)) rfl ?_
                      rw [← hQ]; exact ⟨_, rfl, by omega, by omega, hIm70, hFm70, by omega, by omega, by omega⟩
                  · intro h74
                    refine zw_push zr_103_76 ?_
                    refine zw_R zr_103_78 (by decide) zm_103 (v := (0, (-3))) rfl ?_
                    rw [← hQ]; exact ⟨_, rfl, by omega, by omega, hI0, hF0, by omega, by omega, by omega⟩
                · intro h78
                  refine zw_push zr_103_67 ?_
                  refine zw_42 zr_103_68 ?_
                  refine zw_3 zr_103_72 rfl ?_
                  refine zw_41_4 zr_103_73 ?_ ?_
                  · intro h79
                    refine zw_3 zr_103_79 rfl ?_
                    refine zw_40_4 zr_103_80 ?_ ?_
                    · intro h80; omega
                    · intro h81
                      refine zw_7 zr_103_83 rfl ?_
                      refine zw_46r (s := 1) zr_103_84 rfl rfl rfl rfl ?_
                      refine zw_43 zr_103_87 rfl ?_
                      refine zw_46l zr_103_88 hg1 rfl rfl rfl ?_
                      refine zw_6 zr_103_91 rfl ?_
                      refine zw_32p (s := a0) zr_103_93 ex34 (by omega) (by omega) ?_
                      intro x82 ex82 hx82a hx82b
                      refine zw_47 (c := 1) zr_103_94 rfl ⟨rfl, by decide, rfl⟩ ?_
                      intro m83 em83
                      have hIm83 : zInv m83 := by rw [em83]; exact hI0.bdl (r := 1) (k := 2) (lo := 0) (hi := 1152921504606846975) rfl (by omega) (by decide) (by decide) (by decide) (by decide)
                      have hFm83 : zFr W_103 m0 m83 := by rw [em83]; exact hF0.up rfl
                      have km83_1_1 : m83 1 1 = g0 := by rw [em83, zUp_ne (by omega)]; exact hg0
                      have km83_1_3 : m83 1 3 = g2 := by rw [em83, zUp_ne (by omega)]; exact hg2
                      have km83_1_2 : m83 1 2 = x82 := by rw [em83]; exact zUp_eq _ _ _ _
                      clear em83
                      refine zw_42 zr_103_97 ?_
                      refine zw_push zr_103_114 ?_
                      refine zw_R zr_103_115 (by decide) zm_103 (v := (0, 1)) rfl ?_
                      rw [← hQ]; exact ⟨_, rfl, by omega, by omega, hIm83, hFm83, by omega, by omega, by omega⟩
                  · intro h87
                    refine zw_push zr_103_76 ?_
                    refine zw_R zr_103_78 (by decide) zm_103 (v := (0, (-3))) rfl ?_
                    rw [← hQ]; exact ⟨_, rfl, by omega, by omega, hI0, hF0, by omega, by omega, by omega⟩
            · intro h91; omega

abbrev W_147 : List (Nat × Nat) := [(70, 1000)]
set_option maxHeartbeats 8000000 in
theorem th_147 {E : zE} {d : Nat} {m0 : zM} {a0 : Int} {a1 : Int} {a2 : Int} {g0 : Int} {F70 : Nat → Int} (hd : 2 ≤ d) (hI0 : zInv m0) (hg0 : m0 70 823 = g0) (hG70 : m0 70 = F70) (ha0 : (-2147483648) ≤ a0 ∧ a0 ≤ 2147483647) (ha1 : (-2147483648) ≤ a1 ∧ a1 ≤ 2147483647) (ha2 : 0 ≤ a2 ∧ a2 ≤ 1) : zC E d 147 [(2, 69), (0, a0), (0, a1), (0, a2)] m0 (fun v m' => ∃ r : Int, v = (0, r) ∧ (-3) ≤ r ∧ r ≤ 1 ∧ zInv m' ∧ zFr W_147 m0 m' ∧ ((r = -2 ∧ (a0 < 0 ∨ g0 ≤ a0 ∨ a1 < 0 ∨ 1 < a1)) ∨ (0 ≤ a0 ∧ a0 < g0 ∧ 0 ≤ a1 ∧ a1 ≤ 1 ∧ ((r = -3 ∧ F70 (90 + 6 * a0 + (4 + a1)).toNat = a2) ∨ (r = 1 ∧ F70 (90 + 6 * a0 + (4 + a1)).toNat ≠ a2)))) ∧ (m' 70 = if 0 ≤ r then zPt F70 (90 + 6 * a0 + 4 + a1).toNat a2 else F70)) := by
  have hF0 : zFr W_147 m0 m0 := zFr.rfl
  have bg0 : 0 ≤ m0 70 823 ∧ m0 70 823 ≤ 60 := ib_70_meetings hI0 (by omega)
  rw [hg0] at bg0
  generalize hQ : (fun (v : zV) (m' : zM) => ∃ r : Int, v = (0, r) ∧ (-3) ≤ r ∧ r ≤ 1 ∧ zInv m' ∧ zFr W_147 m0 m' ∧ ((r = -2 ∧ (a0 < 0 ∨ g0 ≤ a0 ∨ a1 < 0 ∨ 1 < a1)) ∨ (0 ≤ a0 ∧ a0 < g0 ∧ 0 ≤ a1 ∧ a1 ≤ 1 ∧ ((r = -3 ∧ F70 (90 + 6 * a0 + (4 + a1)).toNat = a2) ∨ (r = 1 ∧ F70 (90 + 6 * a0 + (4 + a1)).toNat ≠ a2)))) ∧ (m' 70 = if 0 ≤ r then zPt F70 (90 + 6 * a0 + 4 + a1).toNat a2 else F70)) = Q
  show zW E d 147 0 [(2, 69), (0, a0), (0, a1), (0, a2)] [] m0 Q
  refine zw_3 zr_147_0 rfl ?_
  refine zw_36 zr_147_1 ?_
  refine zw_push zr_147_2 ?_
  refine zw_7 zr_147_3 rfl ?_
  refine zw_C zr_147_4 (Or.inl rfl) zm_142 rfl rfl ⟨Nat.le_of_ble_eq_true rfl, Nat.le_of_ble_eq_true rfl, Nat.le_of_ble_eq_true rfl, rfl, by decide⟩ (by omega) (P := (fun v m' => zW E (d) 147 7 [(2, 69), (0, a0), (0, a1), (0, a2)] (if v.1 = 9 then [(1, 0), (1, a0)] else v :: [(1, 0), (1, a0)]) m' Q)) ?_ (fun _ _ h => h)
  generalize hQ1 : (fun v m' => zW E (d) 147 7 [(2, 69), (0, a0), (0, a1), (0, a2)] (if v.1 = 9 then [(1, 0), (1, a0)] else v :: [(1, 0), (1, a0)]) m' Q) = Q1
  show zW E (d - 1) 142 0 [(2, 69)] [] m0 Q1
  refine zw_7 zr_142_0 rfl ?_
  refine zw_46r (s := 70) zr_142_1 rfl rfl rfl rfl ?_
  refine zw_push zr_142_4 ?_
  refine zw_48k (c := 70) (len := 826) zr_142_7 rfl rfl (by omega) (by omega) (show (823 : Int).toNat = 823 by omega) hg0 ?_
  refine zw_R zr_142_8 (by decide) zm_142 (v := (0, g0)) rfl ?_
  rw [← hQ1]
  show zW E (d) 147 7 [(2, 69), (0, a0), (0, a1), (0, a2)] [(0, g0), (1, 0), (1, a0)] m0 Q
  refine zw_push zr_147_7 ?_
  refine zw_17 zr_147_8 (by omega) ?_
  refine zw_36 zr_147_9 ?_
  refine zw_C zr_147_10 (Or.inr rfl) zm_140 rfl rfl ⟨Nat.le_of_ble_eq_true rfl, Nat.le_of_ble_eq_true rfl, Nat.le_of_ble_eq_true rfl, rfl, by decide⟩ (by omega) (P := (fun v m' => zW E (d) 147 13 [(2, 69), (0, a0), (0, a1), (0, a2)] (if v.1 = 9 then [] else v :: []) m' Q)) ?_ (fun _ _ h => h)
  generalize hQ1 : (fun v m' => zW E (d) 147 13 [(2, 69), (0, a0), (0, a1), (0, a2)] (if v.1 = 9 then [] else v :: []) m' Q) = Q1
  show zW E (d - 1) 140 0 [(1, a0), (9, 0), (1, 0), (9, 0), (1, (g0 - 1)), (9, 0)] [] m0 Q1
  refine zw_5 zr_140_0 rfl ?_
  refine zw_5 zr_140_1 rfl ?_
  refine zw_39_0 zr_140_2 zr_140_3 ?_ ?_
  · intro h1
    refine zw_push zr_140_17 ?_
    refine zw_R zr_140_18 (by decide) zm_140 (v := (0, 0)) (zRetB (by omega)) ?_
    rw [← hQ1]
    show zW E (d) 147 13 [(2, 69), (0, a0), (0, a1), (0, a2)] [(0, 0)] m0 Q
    refine zw_40_1 zr_147_13 ?_ ?_
    · intro h2
      refine zw_push zr_147_26 ?_
      refine zw_R zr_147_28 (by decide) zm_147 (v := (0, (-2))) rfl ?_
      rw [← hQ]; exact ⟨_, rfl, by omega, by omega, hI0, hF0, by omega, by rw [hG70]; first | exact (if_neg (by omega)).symm | exact (if_pos (by omega)).symm | (rw [show a2 = 1 by omega]; first | exact (if_neg (by omega)).symm | exact (if_pos (by omega)).symm) | (rw [show a2 = 0 by omega]; first | exact (if_neg (by omega)).symm | exact (if_pos (by omega)).symm)⟩
    · intro h5; omega
  · intro h6
    refine zw_5 zr_140_6 rfl ?_
    refine zw_6 zr_140_7 rfl ?_
    refine zw_39_2 zr_140_9 zr_140_10 ?_ ?_
    · intro h7
      refine zw_push zr_140_17 ?_
      refine zw_R zr_140_18 (by decide) zm_140 (v := (0, 0)) (zRetB (by omega)) ?_
      rw [← hQ1]
      show zW E (d) 147 13 [(2, 69), (0, a0), (0, a1), (0, a2)] [(0, 0)] m0 Q
      refine zw_40_1 zr_147_13 ?_ ?_
      · intro h8
        refine zw_push zr_147_26 ?_
        refine zw_R zr_147_28 (by decide) zm_147 (v := (0, (-2))) rfl ?_
        rw [← hQ]; exact ⟨_, rfl, by omega, by omega, hI0, hF0, by omega, by rw [hG70]; first | exact (if_neg (by omega)).symm | exact (if_pos (by omega)).symm | (rw [show a2 = 1 by omega]; first | exact (if_neg (by omega)).symm | exact (if_pos (by omega)).symm) | (rw [show a2 = 0 by omega]; first | exact (if_neg (by omega)).symm | exact (if_pos (by omega)).symm)⟩
      · intro h11; omega
    · intro h12
      refine zw_push zr_140_13 ?_
      refine zw_42 zr_140_14 ?_
      refine zw_R zr_140_18 (by decide) zm_140 (v := (0, 1)) (zRetB (by omega)) ?_
      rw [← hQ1]
      show zW E (d) 147 13 [(2, 69), (0, a0), (0, a1), (0, a2)] [(0, 1)] m0 Q
      refine zw_40_1 zr_147_13 ?_ ?_
      · intro h13; omega
      · intro h14
        refine zw_3 zr_147_16 rfl ?_
        refine zw_36 zr_147_17 ?_
        refine zw_push zr_147_18 ?_
        refine zw_push zr_147_19 ?_
        refine zw_C zr_147_20 (Or.inr rfl) zm_140 rfl rfl ⟨Nat.le_of_ble_eq_true rfl, Nat.le_of_ble_eq_true rfl, Nat.le_of_ble_eq_true rfl, rfl, by decide⟩ (by omega) (P := (fun v m' => zW E (d) 147 23 [(2, 69), (0, a0), (0, a1), (0, a2)] (if v.1 = 9 then [] else v :: []) m' Q)) ?_ (fun _ _ h => h)
        generalize hQ1 : (fun v m' => zW E (d) 147 23 [(2, 69), (0, a0), (0, a1), (0, a2)] (if v.1 = 9 then [] else v :: []) m' Q) = Q1
        show zW E (d - 1) 140 0 [(1, a1), (9, 0), (1, 0), (9, 0), (1, 1), (9, 0)] [] m0 Q1
        refine zw_5 zr_140_0 rfl ?_
        refine zw_5 zr_140_1 rfl ?_
        refine zw_39_0 zr_140_2 zr_140_3 ?_ ?_
        · intro h15
          refine zw_push zr_140_17 ?_
          refine zw_R zr_140_18 (by decide) zm_140 (v := (0, 0)) (zRetB (by omega)) ?_
          rw [← hQ1]
          show zW E (d) 147 23 [(2, 69), (0, a0), (0, a1), (0, a2)] [(0, 0)] m0 Q
          refine zw_40_4 zr_147_23 ?_ ?_
          · intro h16; omega
          · intro h17
            refine zw_push zr_147_26 ?_
            refine zw_R zr_147_28 (by decide) zm_147 (v := (0, (-2))) rfl ?_
            rw [← hQ]; exact ⟨_, rfl, by omega, by omega, hI0, hF0, by omega, by rw [hG70]; first | exact (if_neg (by omega)).symm | exact (if_pos (by omega)).symm | (rw [show a2 = 1 by omega]; first | exact (if_neg (by omega)).symm | exact (if_pos (by omega)).symm) | (rw [show a2 = 0 by omega]; first | exact (if_neg (by omega)).symm | exact (if_pos (by omega)).symm)⟩
        · intro h20
          refine zw_5 zr_140_6 rfl ?_
          refine zw_6 zr_140_7 rfl ?_
          refine zw_39_2 zr_140_9 zr_140_10 ?_ ?_
          · intro h21
            refine zw_push zr_140_17 ?_
            refine zw_R zr_140_18 (by decide) zm_140 (v := (0, 0)) (zRetB (by omega)) ?_
            rw [← hQ1]
            show zW E (d) 147 23 [(2, 69), (0, a0), (0, a1), (0, a2)] [(0, 0)] m0 Q
            refine zw_40_4 zr_147_23 ?_ ?_
            · intro h22; omega
            · intro h23
              refine zw_push zr_147_26 ?_
              refine zw_R zr_147_28 (by decide) zm_147 (v := (0, (-2))) rfl ?_
              rw [← hQ]; exact ⟨_, rfl, by omega, by omega, hI0, hF0, by omega, by rw [hG70]; first | exact (if_neg (by omega)).symm | exact (if_pos (by omega)).symm | (rw [show a2 = 1 by omega]; first | exact (if_neg (by omega)).symm | exact (if_pos (by omega)).symm) | (rw [show a2 = 0 by omega]; first | exact (if_neg (by omega)).symm | exact (if_pos (by omega)).symm)⟩
          · intro h26
            refine zw_push zr_140_13 ?_
            refine zw_42 zr_140_14 ?_
            refine zw_R zr_140_18 (by decide) zm_140 (v := (0, 1)) (zRetB (by omega)) ?_
            rw [← hQ1]
            show zW E (d) 147 23 [(2, 69), (0, a0), (0, a1), (0, a2)] [(0, 1)] m0 Q
            refine zw_40_4 zr_147_23 ?_ ?_
            · intro h27
              refine zw_7 zr_147_29 rfl ?_
              refine zw_3 zr_147_30 rfl ?_
              refine zw_push zr_147_31 ?_
              refine zw_3 zr_147_32 rfl ?_
              refine zw_16 zr_147_33 (by omega) ?_
              refine zw_C zr_147_34 (Or.inl rfl) zm_144 rfl rfl ⟨Nat.le_of_ble_eq_true rfl, Nat.le_of_ble_eq_true rfl, Nat.le_of_ble_eq_true rfl, rfl, by decide⟩ (by omega) (P := (fun v m' => zW E (d) 147 37 [(2, 69), (0, a0), (0, a1), (0, a2)] (if v.1 = 9 then [] else v :: []) m' Q)) ?_ (fun _ _ h => h)
              generalize hQ1 : (fun v m' => zW E (d) 147 37 [(2, 69), (0, a0), (0, a1), (0, a2)] (if v.1 = 9 then [] else v :: []) m' Q) = Q1
              show zW E (d - 1) 144 0 [(2, 69), (0, a0), (0, (4 + a1))] [] m0 Q1
              refine zw_7 zr_144_0 rfl ?_
              refine zw_46r (s := 70) zr_144_1 rfl rfl rfl rfl ?_
              refine zw_push zr_144_4 ?_
              refine zw_push zr_144_6 ?_
              refine zw_3 zr_144_8 rfl ?_
              refine zw_18 zr_144_9 (by omega) ?_
              refine zw_16 zr_144_10 (by omega) ?_
              refine zw_3 zr_144_11 rfl ?_
              refine zw_16 zr_144_12 (by omega) ?_
              refine zw_48 (c := 70) (len := 826) zr_144_13 rfl rfl (by omega) (by omega) ?_
              intro x28 ex28
              have bx28 := ib_70_m45 hI0 (k := (((90 + (6 * a0)) + (4 + a1))).toNat) (by omega)
              rw [← ex28] at bx28
              have qx28 : x28 = F70 (((90 + (6 * a0)) + (4 + a1))).toNat := by rw [← hG70]; exact ex28
              clear ex28
              refine zw_R zr_144_14 (by decide) zm_144 (v := (0, x28)) rfl ?_
              rw [← hQ1]
              show zW E (d) 147 37 [(2, 69), (0, a0), (0, a1), (0, a2)] [(0, x28)] m0 Q
              refine zw_push zr_147_37 ?_
              refine zw_41_4 zr_147_38 ?_ ?_
              · intro h29
                refine zw_push zr_147_45 ?_
                refine zw_3 zr_147_46 rfl ?_
                refine zw_41_4 zr_147_47 ?_ ?_
                · intro h30
                  refine zw_7 zr_147_53 rfl ?_
                  refine zw_46r (s := 70) zr_147_54 rfl rfl rfl rfl ?_
                  refine zw_push zr_147_57 ?_
                  refine zw_push zr_147_59 ?_
                  refine zw_3 zr_147_61 rfl ?_
                  refine zw_18 zr_147_62 (by omega) ?_
                  refine zw_16 zr_147_63 (by omega) ?_
                  refine zw_push zr_147_64 ?_
                  refine zw_16 zr_147_65 (by omega) ?_
                  refine zw_3 zr_147_66 rfl ?_
                  refine zw_16 zr_147_67 (by omega) ?_
                  refine zw_3 zr_147_68 rfl ?_
                  refine zw_40_1 zr_147_69 ?_ ?_
                  · intro h31; omega
                  · intro h32
                    refine zw_push zr_147_72 ?_
                    refine zw_42 zr_147_73 ?_
                    refine zw_49 (c := 70) (len := 826) zr_147_77 rfl rfl (by omega) (by omega) ?_
                    intro m33 em33
                    have hIm33 : zInv m33 := by rw [em33]; exact iu_70_m45 hI0 (by omega) (by omega)
                    have hFm33 : zFr W_147 m0 m33 := by rw [em33]; exact hF0.any rfl
                    have km33_70_823 : m33 70 823 = g0 := by rw [em33, zUp_ne (by omega)]; exact hg0
                    have fm33_70 : m33 70 = zPt F70 (((((90 + (6 * a0)) + 4) + a1)).toNat) 1 := by rw [em33]; exact (zUp_ff (m := m0)).trans (congrArg (fun q => zPt q (((((90 + (6 * a0)) + 4) + a1)).toNat) 1) hG70)
                    clear em33
                    refine zw_push zr_147_78 ?_
                    refine zw_R zr_147_79 (by decide) zm_147 (v := (0, 1)) rfl ?_
                    rw [← hQ]; exact ⟨_, rfl, by omega, by omega, hIm33, hFm33, by omega, by rw [fm33_70]; first | exact (if_neg (by omega)).symm | exact (if_pos (by omega)).symm | (rw [show a2 = 1 by omega]; first | exact (if_neg (by omega)).symm | exact (if_pos (by omega)).symm) | (rw [show a2 = 0 by omega]; first | exact (if_neg (by omega)).symm | exact (if_pos (by omega)).symm)⟩
                · intro h36
                  refine zw_push zr_147_50 ?_
                  refine zw_R zr_147_52 (by decide) zm_147 (v := (0, (-3))) rfl ?_
                  rw [← hQ]; exact ⟨_, rfl, by omega, by omega, hI0, hF0, by omega, by rw [hG70]; first | exact (if_neg (by omega)).symm | exact (if_pos (by omega)).symm | (rw [show a2 = 1 by omega]; first | exact (if_neg (by omega)).symm | exact (if_pos (by omega)).symm) | (rw [show a2 = 0 by omega]; first | exact (if_neg (by omega)).symm | exact (if_pos (by omega)).symm)⟩
              · intro h39
                refine zw_push zr_147_41 ?_
                refine zw_42 zr_147_42 ?_
                refine zw_3 zr_147_46 rfl ?_
                refine zw_41_4 zr_147_47 ?_ ?_
                · intro h40
                  refine zw_7 zr_147_53 rfl ?_
                  refine zw_46r (s := 70) zr_147_54 rfl rfl rfl rfl ?_
                  refine zw_push zr_147_57 ?_
                  refine zw_push zr_147_59 ?_
                  refine zw_3 zr_147_61 rfl ?_
                  refine zw_18 zr_147_62 (by omega) ?_
                  refine zw_16 zr_147_63 (by omega) ?_
                  refine zw_push zr_147_64 ?_
                  refine zw_16 zr_147_65 (by omega) ?_
                  refine zw_3 zr_147_66 rfl ?_
                  refine zw_16 zr_147_67 (by omega) ?_
                  refine zw_3 zr_147_68 rfl ?_
                  refine zw_40_1 zr_147_69 ?_ ?_
                  · intro h41
                    refine zw_push zr_147_76 ?_
                    refine zw_49 (c := 70) (len := 826) zr_147_77 rfl rfl (by omega) (by omega) ?_
                    intro m42 em42
                    have hIm42 : zInv m42 := by rw [em42]; exact iu_70_m45 hI0 (by omega) (by omega)
                    have hFm42 : zFr W_147 m0 m42 := by rw [em42]; exact hF0.any rfl
                    have km42_70_823 : m42 70 823 = g0 := by rw [em42, zUp_ne (by omega)]; exact hg0
                    have fm42_70 : m42 70 = zPt F70 (((((90 + (6 * a0)) + 4) + a1)).toNat) 0 := by rw [em42]; exact (zUp_ff (m := m0)).trans (congrArg (fun q => zPt q (((((90 + (6 * a0)) + 4) + a1)).toNat) 0) hG70)
                    clear em42
                    refine zw_push zr_147_78 ?_
                    refine zw_R zr_147_79 (by decide) zm_147 (v := (0, 1)) rfl ?_
                    rw [← hQ]; exact ⟨_, rfl, by omega, by omega, hIm42, hFm42, by omega, by rw [fm42_70]; first | exact (if_neg (by omega)).symm | exact (if_pos (by omega)).symm | (rw [show a2 = 1 by omega]; first | exact (if_neg (by omega)).symm | exact (if_pos (by omega)).symm) | (rw [show a2 = 0 by omega]; first | exact (if_neg (by omega)).symm | exact (if_pos (by omega)).symm)⟩
                  · intro h45; omega
                · intro h46
                  refine zw_push zr_147_50 ?_
                  refine zw_R zr_147_52 (by decide) zm_147 (v := (0, (-3))) rfl ?_
                  rw [← hQ]; exact ⟨_, rfl, by omega, by omega, hI0, hF0, by omega, by rw [hG70]; first | exact (if_neg (by omega)).symm | exact (if_pos (by omega)).symm | (rw [show a2 = 1 by omega]; first | exact (if_neg (by omega)).symm | exact (if_pos (by omega)).symm) | (rw [show a2 = 0 by omega]; first | exact (if_neg (by omega)).symm | exact (if_pos (by omega)).symm)⟩
            · intro h49; omega

abbrev W_105 : List (Nat × Nat) := [(9, 1000)]
set_option maxHeartbeats 8000000 in
theorem th_105 {E : zE} {d : Nat} {m0 : zM} {a0 : Int} {a1 : Int} {F9 : Nat → Int} (hd : 3 ≤ d) (hI0 : zInv m0) (hG9 : m0 9 = F9) (ha0 : (-2147483648) ≤ a0 ∧ a0 ≤ 2147483647) (ha1 : (-2147483648) ≤ a1 ∧ a1 ≤ 2147483647) : zC E d 105 [(2, 0), (0, a0), (0, a1)] m0 (fun v m' => ∃ r : Int, v = (0, r) ∧ (-2) ≤ r ∧ r ≤ 9999 ∧ zInv m' ∧ zFr W_105 m0 m' ∧ ((r = -2 ∧ (a0 < 0 ∨ 3 < a0 ∨ a1 < 0 ∨ 9999 < a1)) ∨ (0 ≤ a0 ∧ a0 ≤ 3 ∧ 0 ≤ a1 ∧ a1 ≤ 9999 ∧ 0 ≤ r ∧ r = F9 a0.toNat)) ∧ (m' 9 = if 0 ≤ r then zPt F9 a0.toNat a1 else F9)) := by
  have hF0 : zFr W_105 m0 m0 := zFr.rfl
  generalize hQ : (fun (v : zV) (m' : zM) => ∃ r : Int, v = (0, r) ∧ (-2) ≤ r ∧ r ≤ 9999 ∧ zInv m' ∧ zFr W_105 m0 m' ∧ ((r = -2 ∧ (a0 < 0 ∨ 3 < a0 ∨ a1 < 0 ∨ 9999 < a1)) ∨ (0 ≤ a0 ∧ a0 ≤ 3 ∧ 0 ≤ a1 ∧ a1 ≤ 9999 ∧ 0 ≤ r ∧ r = F9 a0.toNat)) ∧ (m' 9 = if 0 ≤ r then zPt F9 a0.toNat a1 else F9)) = Q
  show zW E d 105 0 [(2, 0), (0, a0), (0, a1), (9, 0)] [] m0 Q
  refine zw_3 zr_105_0 rfl ?_
  refine zw_C zr_105_1 (Or.inr rfl) zm_104 rfl rfl ⟨Nat.le_of_ble_eq_true rfl, Nat.le_of_ble_eq_true rfl, Nat.le_of_ble_eq_true rfl, rfl, by decide⟩ (by omega) (P := (fun v m' => zW E (d) 105 4 [(2, 0), (0, a0), (0, a1), (9, 0)] (if v.1 = 9 then [] else v :: []) m' Q)) ?_ (fun _ _ h => h)
  generalize hQ1 : (fun v m' => zW E (d) 105 4 [(2, 0), (0, a0), (0, a1), (9, 0)] (if v.1 = 9 then [] else v :: []) m' Q) = Q1
  show zW E (d - 1) 104 0 [(0, a0)] [] m0 Q1
  refine zw_3 zr_104_0 rfl ?_
  refine zw_push zr_104_1 ?_
  refine zw_push zr_104_2 ?_
  refine zw_C zr_104_3 (Or.inr rfl) zm_100 rfl rfl ⟨Nat.le_of_ble_eq_true rfl, Nat.le_of_ble_eq_true rfl, Nat.le_of_ble_eq_true rfl, rfl, by decide⟩ (by omega) (P := (fun v m' => zW E (d - 1) 104 6 [(0, a0)] (if v.1 = 9 then [] else v :: []) m' Q1)) ?_ (fun _ _ h => h)
  generalize hQ2 : (fun v m' => zW E (d - 1) 104 6 [(0, a0)] (if v.1 = 9 then [] else v :: []) m' Q1) = Q2
  show zW E (d - 1 - 1) 100 0 [(0, a0), (0, 0), (0, 3)] [] m0 Q2
  refine zw_3 zr_100_0 rfl ?_
  refine zw_3 zr_100_1 rfl ?_
  refine zw_41_0 zr_100_2 ?_ ?_
  · intro h1
    refine zw_push zr_100_14 ?_
    refine zw_R zr_100_15 (by decide) zm_100 (v := (0, 0)) (zRetB (by omega)) ?_
    rw [← hQ2]
    show zW E (d - 1) 104 6 [(0, a0)] [(0, 0)] m0 Q1
    refine zw_R zr_104_6 (by decide) zm_104 (v := (0, 0)) (zRetB (by omega)) ?_
    rw [← hQ1]
    show zW E (d) 105 4 [(2, 0), (0, a0), (0, a1), (9, 0)] [(0, 0)] m0 Q
    refine zw_40_1 zr_105_4 ?_ ?_
    · intro h2
      refine zw_push zr_105_18 ?_
      refine zw_R zr_105_20 (by decide) zm_105 (v := (0, (-2))) rfl ?_
      rw [← hQ]; exact ⟨_, rfl, by omega, by omega, hI0, hF0, by omega, by rw [hG9]; first | exact (if_neg (by omega)).symm | exact (if_pos (by omega)).symm⟩
    · intro h5; omega
  · intro h6
    refine zw_3 zr_100_5 rfl ?_
    refine zw_3 zr_100_6 rfl ?_
    refine zw_41_2 zr_100_7 ?_ ?_
    · intro h7
      refine zw_push zr_100_14 ?_
      refine zw_R zr_100_15 (by decide) zm_100 (v := (0, 0)) (zRetB (by omega)) ?_
      rw [← hQ2]
      show zW E (d - 1) 104 6 [(0, a0)] [(0, 0)] m0 Q1
      refine zw_R zr_104_6 (by decide) zm_104 (v := (0, 0)) (zRetB (by omega)) ?_
      rw [← hQ1]
      show zW E (d) 105 4 [(2, 0), (0, a0), (0, a1), (9, 0)] [(0, 0)] m0 Q
      refine zw_40_1 zr_105_4 ?_ ?_
      · intro h8
        refine zw_push zr_105_18 ?_
        refine zw_R zr_105_20 (by decide) zm_105 (v := (0, (-2))) rfl ?_
        rw [← hQ]; exact ⟨_, rfl, by omega, by omega, hI0, hF0, by omega, by rw [hG9]; first | exact (if_neg (by omega)).symm | exact (if_pos (by omega)).symm⟩
      · intro h11; omega
    · intro h12
      refine zw_push zr_100_10 ?_
      refine zw_42 zr_100_11 ?_
      refine zw_R zr_100_15 (by decide) zm_100 (v := (0, 1)) (zRetB (by omega)) ?_
      rw [← hQ2]
      show zW E (d - 1) 104 6 [(0, a0)] [(0, 1)] m0 Q1
      refine zw_R zr_104_6 (by decide) zm_104 (v := (0, 1)) (zRetB (by omega)) ?_
      rw [← hQ1]
      show zW E (d) 105 4 [(2, 0), (0, a0), (0, a1), (9, 0)] [(0, 1)] m0 Q
      refine zw_40_1 zr_105_4 ?_ ?_
      · intro h13; omega
      · intro h14
        refine zw_3 zr_105_7 rfl ?_
        refine zw_push zr_105_8 ?_
        refine zw_push zr_105_9 ?_
        refine zw_C zr_105_12 (Or.inr rfl) zm_100 rfl rfl ⟨Nat.le_of_ble_eq_true rfl, Nat.le_of_ble_eq_true rfl, Nat.le_of_ble_eq_true rfl, rfl, by decide⟩ (by omega) (P := (fun v m' => zW E (d) 105 15 [(2, 0), (0, a0), (0, a1), (9, 0)] (if v.1 = 9 then [] else v :: []) m' Q)) ?_ (fun _ _ h => h)
        generalize hQ1 : (fun v m' => zW E (d) 105 15 [(2, 0), (0, a0), (0, a1), (9, 0)] (if v.1 = 9 then [] else v :: []) m' Q) = Q1
        show zW E (d - 1) 100 0 [(0, a1), (0, 0), (0, 9999)] [] m0 Q1
        refine zw_3 zr_100_0 rfl ?_
        refine zw_3 zr_100_1 rfl ?_
        refine zw_41_0 zr_100_2 ?_ ?_
        · intro h15
          refine zw_push zr_100_14 ?_
          refine zw_R zr_100_15 (by decide) zm_100 (v := (0, 0)) (zRetB (by omega)) ?_
          rw [← hQ1]
          show zW E (d) 105 15 [(2, 0), (0, a0), (0, a1), (9, 0)] [(0, 0)] m0 Q
          refine zw_40_4 zr_105_15 ?_ ?_
          · intro h16; omega
          · intro h17
            refine zw_push zr_105_18 ?_
            refine zw_R zr_105_20 (by decide) zm_105 (v := (0, (-2))) rfl ?_
            rw [← hQ]; exact ⟨_, rfl, by omega, by omega, hI0, hF0, by omega, by rw [hG9]; first | exact (if_neg (by omega)).symm | exact (if_pos (by omega)).symm⟩
        · intro h20
          refine zw_3 zr_100_5 rfl ?_
          refine zw_3 zr_100_6 rfl ?_
          refine zw_41_2 zr_100_7 ?_ ?_
          · intro h21
            refine zw_push zr_100_14 ?_
            refine zw_R zr_100_15 (by decide) zm_100 (v := (0, 0)) (zRetB (by omega)) ?_
            rw [← hQ1]
            show zW E (d) 105 15 [(2, 0), (0, a0), (0, a1), (9, 0)] [(0, 0)] m0 Q
            refine zw_40_4 zr_105_15 ?_ ?_
            · intro h22; omega
            · intro h23
              refine zw_push zr_105_18 ?_
              refine zw_R zr_105_20 (by decide) zm_105 (v := (0, (-2))) rfl ?_
              rw [← hQ]; exact ⟨_, rfl, by omega, by omega, hI0, hF0, by omega, by rw [hG9]; first | exact (if_neg (by omega)).symm | exact (if_pos (by omega)).symm⟩
          · intro h26
            refine zw_push zr_100_10 ?_
            refine zw_42 zr_100_11 ?_
            refine zw_R zr_100_15 (by decide) zm_100 (v := (0, 1)) (zRetB (by omega)) ?_
            rw [← hQ1]
            show zW E (d) 105 15 [(2, 0), (0, a0), (0, a1), (9, 0)] [(0, 1)] m0 Q
            refine zw_40_4 zr_105_15 ?_ ?_
            · intro h27
              refine zw_7 zr_105_21 rfl ?_
              refine zw_46r (s := 1) zr_105_22 rfl rfl rfl rfl ?_
              refine zw_46r (s := 9) zr_105_25 rfl rfl rfl rfl ?_
              refine zw_3 zr_105_28 rfl ?_
              refine zw_48 (c := 9) (len := 4) zr_105_29 rfl rfl (by omega) (by omega) ?_
              intro x28 ex28
              have bx28 := ib_9 hI0 (k := (a0).toNat) (by omega)
              rw [← ex28] at bx28
              have qx28 : x28 = F9 (a0).toNat := by rw [← hG9]; exact ex28
              clear ex28
              refine zw_9 (L' := [(2, 0), (0, a0), (0, a1), (0, x28)]) zr_105_30 (Nat.le_of_ble_eq_true rfl) rfl ?_
              refine zw_7 zr_105_31 rfl ?_
              refine zw_46r (s := 1) zr_105_32 rfl rfl rfl rfl ?_
              refine zw_46r (s := 9) zr_105_35 rfl rfl rfl rfl ?_
              refine zw_3 zr_105_38 rfl ?_
              refine zw_3 zr_105_39 rfl ?_
              refine zw_49 (c := 9) (len := 4) zr_105_40 rfl rfl (by omega) (by omega) ?_
              intro m29 em29
              have hIm29 : zInv m29 := by rw [em29]; exact iu_9 hI0 (by omega)
              have hFm29 : zFr W_105 m0 m29 := by rw [em29]; exact hF0.any rfl
              have fm29_9 : m29 9 = zPt F9 ((a0).toNat) a1 := by rw [em29]; exact (zUp_ff (m := m0)).trans (congrArg (fun q => zPt q ((a0).toNat) a1) hG9)
              clear em29
              refine zw_3 zr_105_41 rfl ?_
              refine zw_R zr_105_42 (by decide) zm_105 (v := (0, x28)) rfl ?_
              rw [← hQ]; exact ⟨_, rfl, by omega, by omega, hIm29, hFm29, by omega, by rw [fm29_9]; first | exact (if_neg (by omega)).symm | exact (if_pos (by omega)).symm⟩
            · intro h32; omega

abbrev W_149 : List (Nat × Nat) := [(70, 1000)]
set_option maxHeartbeats 8000000 in
theorem th_149 {E : zE} {d : Nat} {m0 : zM} {a0 : Int} {a1 : Int} {F70 : Nat → Int} (hd : 3 ≤ d) (hI0 : zInv m0) (hG70 : m0 70 = F70) (ha0 : (-2147483648) ≤ a0 ∧ a0 ≤ 2147483647) (ha1 : (-2147483648) ≤ a1 ∧ a1 ≤ 2147483647) : zC E d 149 [(2, 69), (0, a0), (0, a1)] m0 (fun v m' => ∃ r : Int, v = (0, r) ∧ (-2) ≤ r ∧ r ≤ 9999 ∧ zInv m' ∧ zFr W_149 m0 m' ∧ ((r = -2 ∧ (a0 < 0 ∨ 3 < a0 ∨ a1 < 0 ∨ 9999 < a1)) ∨ (0 ≤ a0 ∧ a0 ≤ 3 ∧ 0 ≤ a1 ∧ a1 ≤ 9999 ∧ 0 ≤ r ∧ r = F70 (450 + 52 * a0).toNat)) ∧ (m' 70 = if 0 ≤ r then zPt F70 (450 + 52 * a0).toNat a1 else F70)) := by
  have hF0 : zFr W_149 m0 m0 := zFr.rfl
  generalize hQ : (fun (v : zV) (m' : zM) => ∃ r : Int, v = (0, r) ∧ (-2) ≤ r ∧ r ≤ 9999 ∧ zInv m' ∧ zFr W_149 m0 m' ∧ ((r = -2 ∧ (a0 < 0 ∨ 3 < a0 ∨ a1 < 0 ∨ 9999 < a1)) ∨ (0 ≤ a0 ∧ a0 ≤ 3 ∧ 0 ≤ a1 ∧ a1 ≤ 9999 ∧ 0 ≤ r ∧ r = F70 (450 + 52 * a0).toNat)) ∧ (m' 70 = if 0 ≤ r then zPt F70 (450 + 52 * a0).toNat a1 else F70)) = Q
  show zW E d 149 0 [(2, 69), (0, a0), (0, a1), (9, 0)] [] m0 Q
  refine zw_3 zr_149_0 rfl ?_
  refine zw_C zr_149_1 (Or.inr rfl) zm_148 rfl rfl ⟨Nat.le_of_ble_eq_true rfl, Nat.le_of_ble_eq_true rfl, Nat.le_of_ble_eq_true rfl, rfl, by decide⟩ (by omega) (P := (fun v m' => zW E (d) 149 4 [(2, 69), (0, a0), (0, a1), (9, 0)] (if v.1 = 9 then [] else v :: []) m' Q)) ?_ (fun _ _ h => h)
  generalize hQ1 : (fun v m' => zW E (d) 149 4 [(2, 69), (0, a0), (0, a1), (9, 0)] (if v.1 = 9 then [] else v :: []) m' Q) = Q1
  show zW E (d - 1) 148 0 [(0, a0)] [] m0 Q1
  refine zw_3 zr_148_0 rfl ?_
  refine zw_36 zr_148_1 ?_
  refine zw_push zr_148_2 ?_
  refine zw_push zr_148_3 ?_
  refine zw_C zr_148_6 (Or.inr rfl) zm_140 rfl rfl ⟨Nat.le_of_ble_eq_true rfl, Nat.le_of_ble_eq_true rfl, Nat.le_of_ble_eq_true rfl, rfl, by decide⟩ (by omega) (P := (fun v m' => zW E (d - 1) 148 9 [(0, a0)] (if v.1 = 9 then [] else v :: []) m' Q1)) ?_ (fun _ _ h => h)
  generalize hQ2 : (fun v m' => zW E (d - 1) 148 9 [(0, a0)] (if v.1 = 9 then [] else v :: []) m' Q1) = Q2
  show zW E (d - 1 - 1) 140 0 [(1, a0), (9, 0), (1, 0), (9, 0), (1, 3), (9, 0)] [] m0 Q2
  refine zw_5 zr_140_0 rfl ?_
  refine zw_5 zr_140_1 rfl ?_
  refine zw_39_0 zr_140_2 zr_140_3 ?_ ?_
  · intro h1
    refine zw_push zr_140_17 ?_
    refine zw_R zr_140_18 (by decide) zm_140 (v := (0, 0)) (zRetB (by omega)) ?_
    rw [← hQ2]
    show zW E (d - 1) 148 9 [(0, a0)] [(0, 0)] m0 Q1
    refine zw_R zr_148_9 (by decide) zm_148 (v := (0, 0)) (zRetB (by omega)) ?_
    rw [← hQ1]
    show zW E (d) 149 4 [(2, 69), (0, a0), (0, a1), (9, 0)] [(0, 0)] m0 Q
    refine zw_40_1 zr_149_4 ?_ ?_
    · intro h2
      refine zw_push zr_149_19 ?_
      refine zw_R zr_149_21 (by decide) zm_149 (v := (0, (-2))) rfl ?_
      rw [← hQ]; exact ⟨_, rfl, by omega, by omega, hI0, hF0, by omega, by rw [hG70]; first | exact (if_neg (by omega)).symm | exact (if_pos (by omega)).symm⟩
    · intro h5; omega
  · intro h6
    refine zw_5 zr_140_6 rfl ?_
    refine zw_6 zr_140_7 rfl ?_
    refine zw_39_2 zr_140_9 zr_140_10 ?_ ?_
    · intro h7
      refine zw_push zr_140_17 ?_
      refine zw_R zr_140_18 (by decide) zm_140 (v := (0, 0)) (zRetB (by omega)) ?_
      rw [← hQ2]
      show zW E (d - 1) 148 9 [(0, a0)] [(0, 0)] m0 Q1
      refine zw_R zr_148_9 (by decide) zm_148 (v := (0, 0)) (zRetB (by omega)) ?_
      rw [← hQ1]
      show zW E (d) 149 4 [(2, 69), (0, a0), (0, a1), (9, 0)] [(0, 0)] m0 Q
      refine zw_40_1 zr_149_4 ?_ ?_
      · intro h8
        refine zw_push zr_149_19 ?_
        refine zw_R zr_149_21 (by decide) zm_149 (v := (0, (-2))) rfl ?_
        rw [← hQ]; exact ⟨_, rfl, by omega, by omega, hI0, hF0, by omega, by rw [hG70]; first | exact (if_neg (by omega)).symm | exact (if_pos (by omega)).symm⟩
      · intro h11; omega
    · intro h12
      refine zw_push zr_140_13 ?_
      refine zw_42 zr_140_14 ?_
      refine zw_R zr_140_18 (by decide) zm_140 (v := (0, 1)) (zRetB (by omega)) ?_
      rw [← hQ2]
      show zW E (d - 1) 148 9 [(0, a0)] [(0, 1)] m0 Q1
      refine zw_R zr_148_9 (by decide) zm_148 (v := (0, 1)) (zRetB (by omega)) ?_
      rw [← hQ1]
      show zW E (d) 149 4 [(2, 69), (0, a0), (0, a1), (9, 0)] [(0, 1)] m0 Q
      refine zw_40_1 zr_149_4 ?_ ?_
      · intro h13; omega
      · intro h14
        refine zw_3 zr_149_7 rfl ?_
        refine zw_36 zr_149_8 ?_
        refine zw_push zr_149_9 ?_
        refine zw_push zr_149_10 ?_
        refine zw_C zr_149_13 (Or.inr rfl) zm_140 rfl rfl ⟨Nat.le_of_ble_eq_true rfl, Nat.le_of_ble_eq_true rfl, Nat.le_of_ble_eq_true rfl, rfl, by decide⟩ (by omega) (P := (fun v m' => zW E (d) 149 16 [(2, 69), (0, a0), (0, a1), (9, 0)] (if v.1 = 9 then [] else v :: []) m' Q)) ?_ (fun _ _ h => h)
        generalize hQ1 : (fun v m' => zW E (d) 149 16 [(2, 69), (0, a0), (0, a1), (9, 0)] (if v.1 = 9 then [] else v :: []) m' Q) = Q1
        show zW E (d - 1) 140 0 [(1, a1), (9, 0), (1, 0), (9, 0), (1, 9999), (9, 0)] [] m0 Q1
        refine zw_5 zr_140_0 rfl ?_
        refine zw_5 zr_140_1 rfl ?_
        refine zw_39_0 zr_140_2 zr_140_3 ?_ ?_
        · intro h15
          refine zw_push zr_140_17 ?_
          refine zw_R zr_140_18 (by decide) zm_140 (v := (0, 0)) (zRetB (by omega)) ?_
          rw [← hQ1]
          show zW E (d) 149 16 [(2, 69), (0, a0), (0, a1), (9, 0)] [(0, 0)] m0 Q
          refine zw_40_4 zr_149_16 ?_ ?_
          · intro h16; omega
          · intro h17
            refine zw_push zr_149_19 ?_
            refine zw_R zr_149_21 (by decide) zm_149 (v := (0, (-2))) rfl ?_
            rw [← hQ]; exact ⟨_, rfl, by omega, by omega, hI0, hF0, by omega, by rw [hG70]; first | exact (if_neg (by omega)).symm | exact (if_pos (by omega)).symm⟩
        · intro h20
          refine zw_5 zr_140_6 rfl ?_
          refine zw_6 zr_140_7 rfl ?_
          refine zw_39_2 zr_140_9 zr_140_10 ?_ ?_
          · intro h21
            refine zw_push zr_140_17 ?_
            refine zw_R zr_140_18 (by decide) zm_140 (v := (0, 0)) (zRetB (by omega)) ?_
            rw [← hQ1]
            show zW E (d) 149 16 [(2, 69), (0, a0), (0, a1), (9, 0)] [(0, 0)] m0 Q
            refine zw_40_4 zr_149_16 ?_ ?_
            · intro h22; omega
            · intro h23
              refine zw_push zr_149_19 ?_
              refine zw_R zr_149_21 (by decide) zm_149 (v := (0, (-2))) rfl ?_
              rw [← hQ]; exact ⟨_, rfl, by omega, by omega, hI0, hF0, by omega, by rw [hG70]; first | exact (if_neg (by omega)).symm | exact (if_pos (by omega)).symm⟩
          · intro h26
            refine zw_push zr_140_13 ?_
            refine zw_42 zr_140_14 ?_
            refine zw_R zr_140_18 (by decide) zm_140 (v := (0, 1)) (zRetB (by omega)) ?_
            rw [← hQ1]
            show zW E (d) 149 16 [(2, 69), (0, a0), (0, a1), (9, 0)] [(0, 1)] m0 Q
            refine zw_40_4 zr_149_16 ?_ ?_
            · intro h27
              refine zw_7 zr_149_22 rfl ?_
              refine zw_46r (s := 70) zr_149_23 rfl rfl rfl rfl ?_
              refine zw_push zr_149_26 ?_
              refine zw_push zr_149_29 ?_
              refine zw_3 zr_149_31 rfl ?_
              refine zw_18 zr_149_32 (by omega) ?_
              refine zw_16 zr_149_33 (by omega) ?_
              refine zw_48 (c := 70) (len := 826) zr_149_34 rfl rfl (by omega) (by omega) ?_
              intro x28 ex28
              have bx28 := ib_70_s0 hI0 (k := ((450 + (52 * a0))).toNat) (by omega)
              rw [← ex28] at bx28
              have qx28 : x28 = F70 ((450 + (52 * a0))).toNat := by rw [← hG70]; exact ex28
              clear ex28
              refine zw_9 (L' := [(2, 69), (0, a0), (0, a1), (0, x28)]) zr_149_35 (Nat.le_of_ble_eq_true rfl) rfl ?_
              refine zw_7 zr_149_36 rfl ?_
              refine zw_46r (s := 70) zr_149_37 rfl rfl rfl rfl ?_
              refine zw_push zr_149_40 ?_
              refine zw_push zr_149_43 ?_
              refine zw_3 zr_149_45 rfl ?_
              refine zw_18 zr_149_46 (by omega) ?_
              refine zw_16 zr_149_47 (by omega) ?_
              refine zw_3 zr_149_48 rfl ?_
              refine zw_49 (c := 70) (len := 826) zr_149_49 rfl rfl (by omega) (by omega) ?_
              intro m29 em29
              have hIm29 : zInv m29 := by rw [em29]; exact iu_70_s0 hI0 (by omega) (by omega)
              have hFm29 : zFr W_149 m0 m29 := by rw [em29]; exact hF0.any rfl
              have fm29_70 : m29 70 = zPt F70 (((450 + (52 * a0))).toNat) a1 := by rw [em29]; exact (zUp_ff (m := m0)).trans (congrArg (fun q => zPt q (((450 + (52 * a0))).toNat) a1) hG70)
              clear em29
              refine zw_3 zr_149_50 rfl ?_
              refine zw_R zr_149_51 (by decide) zm_149 (v := (0, x28)) rfl ?_
              rw [← hQ]; exact ⟨_, rfl, by omega, by omega, hIm29, hFm29, by omega, by rw [fm29_70]; first | exact (if_neg (by omega)).symm | exact (if_pos (by omega)).symm⟩
            · intro h32; omega

abbrev W_106 : List (Nat × Nat) := [(10, 1000), (11, 1000)]
set_option maxHeartbeats 8000000 in
theorem th_106 {E : zE} {d : Nat} {m0 : zM} {a0 : Int} {a1 : Int} {F10 : Nat → Int} {F11 : Nat → Int} (hd : 3 ≤ d) (hI0 : zInv m0) (hG10 : m0 10 = F10) (hG11 : m0 11 = F11) (ha0 : (-2147483648) ≤ a0 ∧ a0 ≤ 2147483647) (ha1 : (-2147483648) ≤ a1 ∧ a1 ≤ 2147483647) : zC E d 106 [(2, 0), (0, a0), (0, a1)] m0 (fun v m' => ∃ r : Int, v = (0, r) ∧ (-4) ≤ r ∧ r ≤ 50 ∧ zInv m' ∧ zFr W_106 m0 m' ∧ ((r = -2 ∧ (a0 < 0 ∨ 3 < a0 ∨ a1 < 0 ∨ 127 < a1)) ∨ (0 ≤ a0 ∧ a0 ≤ 3 ∧ 0 ≤ a1 ∧ a1 ≤ 127 ∧ ((r = -4 ∧ F10 a0.toNat = 50) ∨ (0 ≤ F10 a0.toNat ∧ F10 a0.toNat < 50 ∧ r = F10 a0.toNat + 1)))) ∧ (m' 10 = if 0 ≤ r then zPt F10 a0.toNat (F10 a0.toNat + 1) else F10) ∧ (m' 11 = if 0 ≤ r then zPt F11 (a0 * 50 + F10 a0.toNat).toNat a1 else F11)) := by
  have hF0 : zFr W_106 m0 m0 := zFr.rfl
  generalize hQ : (fun (v : zV) (m' : zM) => ∃ r : Int, v = (0, r) ∧ (-4) ≤ r ∧ r ≤ 50 ∧ zInv m' ∧ zFr W_106 m0 m' ∧ ((r = -2 ∧ (a0 < 0 ∨ 3 < a0 ∨ a1 < 0 ∨ 127 < a1)) ∨ (0 ≤ a0 ∧ a0 ≤ 3 ∧ 0 ≤ a1 ∧ a1 ≤ 127 ∧ ((r = -4 ∧ F10 a0.toNat = 50) ∨ (0 ≤ F10 a0.toNat ∧ F10 a0.toNat < 50 ∧ r = F10 a0.toNat + 1)))) ∧ (m' 10 = if 0 ≤ r then zPt F10 a0.toNat (F10 a0.toNat + 1) else F10) ∧ (m' 11 = if 0 ≤ r then zPt F11 (a0 * 50 + F10 a0.toNat).toNat a1 else F11)) = Q
  show zW E d 106 0 [(2, 0), (0, a0), (0, a1), (9, 0)] [] m0 Q
  refine zw_3 zr_106_0 rfl ?_
  refine zw_C zr_106_1 (Or.inr rfl) zm_104 rfl rfl ⟨Nat.le_of_ble_eq_true rfl, Nat.le_of_ble_eq_true rfl, Nat.le_of_ble_eq_true rfl, rfl, by decide⟩ (by omega) (P := (fun v m' => zW E (d) 106 4 [(2, 0), (0, a0), (0, a1), (9, 0)] (if v.1 = 9 then [] else v :: []) m' Q)) ?_ (fun _ _ h => h)
  generalize hQ1 : (fun v m' => zW E (d) 106 4 [(2, 0), (0, a0), (0, a1), (9, 0)] (if v.1 = 9 then [] else v :: []) m' Q) = Q1
  show zW E (d - 1) 104 0 [(0, a0)] [] m0 Q1
  refine zw_3 zr_104_0 rfl ?_
  refine zw_push zr_104_1 ?_
  refine zw_push zr_104_2 ?_
  refine zw_C zr_104_3 (Or.inr rfl) zm_100 rfl rfl ⟨Nat.le_of_ble_eq_true rfl, Nat.le_of_ble_eq_true rfl, Nat.le_of_ble_eq_true rfl, rfl, by decide⟩ (by omega) (P := (fun v m' => zW E (d - 1) 104 6 [(0, a0)] (if v.1 = 9 then [] else v :: []) m' Q1)) ?_ (fun _ _ h => h)
  generalize hQ2 : (fun v m' => zW E (d - 1) 104 6 [(0, a0)] (if v.1 = 9 then [] else v :: []) m' Q1) = Q2
  show zW E (d - 1 - 1) 100 0 [(0, a0), (0, 0), (0, 3)] [] m0 Q2
  refine zw_3 zr_100_0 rfl ?_
  refine zw_3 zr_100_1 rfl ?_
  refine zw_41_0 zr_100_2 ?_ ?_
  · intro h1
    refine zw_push zr_100_14 ?_
    refine zw_R zr_100_15 (by decide) zm_100 (v := (0, 0)) (zRetB (by omega)) ?_
    rw [← hQ2]
    show zW E (d - 1) 104 6 [(0, a0)] [(0, 0)] m0 Q1
    refine zw_R zr_104_6 (by decide) zm_104 (v := (0, 0)) (zRetB (by omega)) ?_
    rw [← hQ1]
    show zW E (d) 106 4 [(2, 0), (0, a0), (0, a1), (9, 0)] [(0, 0)] m0 Q
    refine zw_40_1 zr_106_4 ?_ ?_
    · intro h2
      refine zw_push zr_106_17 ?_
      refine zw_R zr_106_19 (by decide) zm_106 (v := (0, (-2))) rfl ?_
      rw [← hQ]; exact ⟨_, rfl, by omega, by omega, hI0, hF0, by omega, by rw [hG10]; first | exact (if_neg (by omega)).symm | exact (if_pos (by omega)).symm | (rw [qzz]; first | exact (if_neg (by omega)).symm | exact (if_pos (by omega)).symm), by rw [hG11]; first | exact (if_neg (by omega)).symm | exact (if_pos (by omega)).symm | (rw [qzz]; first | exact (if_neg (by omega)).symm | exact (if_pos (by omega)).symm)⟩
    · intro h6; omega
  · intro h7
    refine zw_3 zr_100_5 rfl ?_
    refine zw_3 zr_100_6 rfl ?_
    refine zw_41_2 zr_100_7 ?_ ?_
    · intro h8
      refine zw_push zr_100_14 ?_
      refine zw_R zr_100_15 (by decide) zm_100 (v := (0, 0)) (zRetB (by omega)) ?_
      rw [← hQ2]
      show zW E (d - 1) 104 6 [(0, a0)] [(0, 0)] m0 Q1
      refine zw_R zr_104_6 (by decide) zm_104 (v := (0, 0)) (zRetB (by omega)) ?_
      rw [← hQ1]
      show zW E (d) 106 4 [(2, 0), (0, a0), (0, a1), (9, 0)] [(0, 0)] m0 Q
      refine zw_40_1 zr_106_4 ?_ ?_
      · intro h9
        refine zw_push zr_106_17 ?_
        refine zw_R zr_106_19 (by decide) zm_106 (v := (0, (-2))) rfl ?_
        rw [← hQ]; exact ⟨_, rfl, by omega, by omega, hI0, hF0, by omega, by rw [hG10]; first | exact (if_neg (by omega)).symm | exact (if_pos (by omega)).symm | (rw [qzz]; first | exact (if_neg (by omega)).symm | exact (if_pos (by omega)).symm), by rw [hG11]; first | exact (if_neg (by omega)).symm | exact (if_pos (by omega)).symm | (rw [qzz]; first | exact (if_neg (by omega)).symm | exact (if_pos (by omega)).symm)⟩
      · intro h13; omega
    · intro h14
      refine zw_push zr_100_10 ?_
      refine zw_42 zr_100_11 ?_
      refine zw_R zr_100_15 (by decide) zm_100 (v := (0, 1)) (zRetB (by omega)) ?_
      rw [← hQ2]
      show zW E (d - 1) 104 6 [(0, a0)] [(0, 1)] m0 Q1
      refine zw_R zr_104_6 (by decide) zm_104 (v := (0, 1)) (zRetB (by omega)) ?_
      rw [← hQ1]
      show zW E (d) 106 4 [(2, 0), (0, a0), (0, a1), (9, 0)] [(0, 1)] m0 Q
      refine zw_40_1 zr_106_4 ?_ ?_
      · intro h15; omega
      · intro h16
        refine zw_3 zr_106_7 rfl ?_
        refine zw_push zr_106_8 ?_
        refine zw_push zr_106_9 ?_
        refine zw_C zr_106_11 (Or.inr rfl) zm_100 rfl rfl ⟨Nat.le_of_ble_eq_true rfl, Nat.le_of_ble_eq_true rfl, Nat.le_of_ble_eq_true rfl, rfl, by decide⟩ (by omega) (P := (fun v m' => zW E (d) 106 14 [(2, 0), (0, a0), (0, a1), (9, 0)] (if v.1 = 9 then [] else v :: []) m' Q)) ?_ (fun _ _ h => h)
        generalize hQ1 : (fun v m' => zW E (d) 106 14 [(2, 0), (0, a0), (0, a1), (9, 0)] (if v.1 = 9 then [] else v :: []) m' Q) = Q1
        show zW E (d - 1) 100 0 [(0, a1), (0, 0), (0, 127)] [] m0 Q1
        refine zw_3 zr_100_0 rfl ?_
        refine zw_3 zr_100_1 rfl ?_
        refine zw_41_0 zr_100_2 ?_ ?_
        · intro h17
          refine zw_push zr_100_14 ?_
          refine zw_R zr_100_15 (by decide) zm_100 (v := (0, 0)) (zRetB (by omega)) ?_
          rw [← hQ1]
          show zW E (d) 106 14 [(2, 0), (0, a0), (0, a1), (9, 0)] [(0, 0)] m0 Q
          refine zw_40_4 zr_106_14 ?_ ?_
          · intro h18; omega
          · intro h19
            refine zw_push zr_106_17 ?_
            refine zw_R zr_106_19 (by decide) zm_106 (v := (0, (-2))) rfl ?_
            rw [← hQ]; exact ⟨_, rfl, by omega, by omega, hI0, hF0, by omega, by rw [hG10]; first | exact (if_neg (by omega)).symm | exact (if_pos (by omega)).symm | (rw [qzz]; first | exact (if_neg (by omega)).symm | exact (if_pos (by omega)).symm), by rw [hG11]; first | exact (if_neg (by omega)).symm | exact (if_pos (by omega)).symm | (rw [qzz]; first | exact (if_neg (by omega)).symm | exact (if_pos (by omega)).symm)⟩
        · intro h23
          refine zw_3 zr_100_5 rfl ?_
          refine zw_3 zr_100_6 rfl ?_
          refine zw_41_2 zr_100_7 ?_ ?_
          · intro h24
            refine zw_push zr_100_14 ?_
            refine zw_R zr_100_15 (by decide) zm_100 (v := (0, 0)) (zRetB (by omega)) ?_
            rw [← hQ1]
            show zW E (d) 106 14 [(2, 0), (0, a0), (0, a1), (9, 0)] [(0, 0)] m0 Q
            refine zw_40_4 zr_106_14 ?_ ?_
            · intro h25; omega
            · intro h26
              refine zw_push zr_106_17 ?_
              refine zw_R zr_106_19 (by decide) zm_106 (v := (0, (-2))) rfl ?_
              rw [← hQ]; exact ⟨_, rfl, by omega, by omega, hI0, hF0, by omega, by rw [hG10]; first | exact (if_neg (by omega)).symm | exact (if_pos (by omega)).symm | (rw [qzz]; first | exact (if_neg (by omega)).symm | exact (if_pos (by omega)).symm), by rw [hG11]; first | exact (if_neg (by omega)).symm | exact (if_pos (by omega)).symm | (rw [qzz]; first | exact (if_neg (by omega)).symm | exact (if_pos (by omega)).symm)⟩
          · intro h30
            refine zw_push zr_100_10 ?_
            refine zw_42 zr_100_11 ?_
            refine zw_R zr_100_15 (by decide) zm_100 (v := (0, 1)) (zRetB (by omega)) ?_
            rw [← hQ1]
            show zW E (d) 106 14 [(2, 0), (0, a0), (0, a1), (9, 0)] [(0, 1)] m0 Q
            refine zw_40_4 zr_106_14 ?_ ?_
            · intro h31
              refine zw_7 zr_106_20 rfl ?_
              refine zw_46r (s := 1) zr_106_21 rfl rfl rfl rfl ?_
              refine zw_46r (s := 10) zr_106_24 rfl rfl rfl rfl ?_
              refine zw_3 zr_106_27 rfl ?_
              refine zw_48 (c := 10) (len := 4) zr_106_28 rfl rfl (by omega) (by omega) ?_
              intro x32 ex32
              have bx32 := ib_10 hI0 (k := (a0).toNat) (by omega)
              rw [← ex32] at bx32
              have qx32 : x32 = F10 (a0).toNat := by rw [← hG10]; exact ex32
              clear ex32
              refine zw_9 (L' := [(2, 0), (0, a0), (0, a1), (0, x32)]) zr_106_29 (Nat.le_of_ble_eq_true rfl) rfl ?_
              refine zw_3 zr_106_30 rfl ?_
              refine zw_push zr_106_31 ?_
              refine zw_41_0 zr_106_33 ?_ ?_
              · intro h33
                refine zw_7 zr_106_39 rfl ?_
                refine zw_46r (s := 1) zr_106_40 rfl rfl rfl rfl ?_
                refine zw_46r (s := 11) zr_106_43 rfl rfl rfl rfl ?_
                refine zw_3 zr_106_46 rfl ?_
                refine zw_push zr_106_47 ?_
                refine zw_18 zr_106_49 (by omega) ?_
                refine zw_3 zr_106_50 rfl ?_
                refine zw_16 zr_106_51 (by omega) ?_
                refine zw_3 zr_106_52 rfl ?_
                refine zw_49 (c := 11) (len := 200) zr_106_53 rfl rfl (by omega) (by omega) ?_
                intro m34 em34
                have hIm34 : zInv m34 := by rw [em34]; exact iu_11 hI0 (by omega)
                have hFm34 : zFr W_106 m0 m34 := by rw [em34]; exact hF0.any rfl
                have fm34_10 : m34 10 = F10 := by rw [em34, zUp_fn (by decide)]; exact hG10
                have fm34_11 : m34 11 = zPt F11 ((((a0 * 50) + x32)).toNat) a1 := by rw [em34]; exact (zUp_ff (m := m0)).trans (congrArg (fun q => zPt q ((((a0 * 50) + x32)).toNat) a1) hG11)
                clear em34
                refine zw_7 zr_106_54 rfl ?_
                refine zw_46r (s := 1) zr_106_55 rfl rfl rfl rfl ?_
                refine zw_46r (s := 10) zr_106_58 rfl rfl rfl rfl ?_
                refine zw_3 zr_106_61 rfl ?_
                refine zw_3 zr_106_62 rfl ?_
                refine zw_push zr_106_63 ?_
                refine zw_16 zr_106_64 (by omega) ?_
                refine zw_49 (c := 10) (len := 4) zr_106_65 rfl rfl (by omega) (by omega) ?_
                intro m35 em35
                have hIm35 : zInv m35 := by rw [em35]; exact iu_10 hIm34 (by omega)
                have hFm35 : zFr W_106 m0 m35 := by rw [em35]; exact hFm34.any rfl
                have fm35_10 : m35 10 = zPt F10 ((a0).toNat) ((x32 + 1)) := by rw [em35]; exact (zUp_ff (m := m34)).trans (congrArg (fun q => zPt q ((a0).toNat) ((x32 + 1))) fm34_10)
                have fm35_11 : m35 11 = zPt F11 ((((a0 * 50) + x32)).toNat) a1 := by rw [em35, zUp_fn (by decide)]; exact fm34_11
                clear em35
                refine zw_3 zr_106_66 rfl ?_
                refine zw_push zr_106_67 ?_
                refine zw_16 zr_106_68 (by omega) ?_
                refine zw_R zr_106_69 (by decide) zm_106 (v := (0, (x32 + 1))) rfl ?_
                rw [← hQ]; exact ⟨_, rfl, by omega, by omega, hIm35, hFm35, by omega, by rw [fm35_10]; first | exact (if_neg (by omega)).symm | exact (if_pos (by omega)).symm | (rw [qx32]; first | exact (if_neg (by omega)).symm | exact (if_pos (by omega)).symm), by rw [fm35_11]; first | exact (if_neg (by omega)).symm | exact (if_pos (by omega)).symm | (rw [qx32]; first | exact (if_neg (by omega)).symm | exact (if_pos (by omega)).symm)⟩
              · intro h39
                refine zw_push zr_106_36 ?_
                refine zw_R zr_106_38 (by decide) zm_106 (v := (0, (-4))) rfl ?_
                rw [← hQ]; exact ⟨_, rfl, by omega, by omega, hI0, hF0, by omega, by rw [hG10]; first | exact (if_neg (by omega)).symm | exact (if_pos (by omega)).symm | (rw [qx32]; first | exact (if_neg (by omega)).symm | exact (if_pos (by omega)).symm), by rw [hG11]; first | exact (if_neg (by omega)).symm | exact (if_pos (by omega)).symm | (rw [qx32]; first | exact (if_neg (by omega)).symm | exact (if_pos (by omega)).symm)⟩
            · intro h43; omega

abbrev W_150 : List (Nat × Nat) := [(70, 1000)]
set_option maxHeartbeats 8000000 in
theorem th_150 {E : zE} {d : Nat} {m0 : zM} {a0 : Int} {a1 : Int} {F70 : Nat → Int} (hd : 3 ≤ d) (hI0 : zInv m0) (hG70 : m0 70 = F70) (ha0 : (-2147483648) ≤ a0 ∧ a0 ≤ 2147483647) (ha1 : (-2147483648) ≤ a1 ∧ a1 ≤ 2147483647) : zC E d 150 [(2, 69), (0, a0), (0, a1)] m0 (fun v m' => ∃ r : Int, v = (0, r) ∧ (-4) ≤ r ∧ r ≤ 50 ∧ zInv m' ∧ zFr W_150 m0 m' ∧ ((r = -2 ∧ (a0 < 0 ∨ 3 < a0 ∨ a1 < 0 ∨ 127 < a1)) ∨ (0 ≤ a0 ∧ a0 ≤ 3 ∧ 0 ≤ a1 ∧ a1 ≤ 127 ∧ ((r = -4 ∧ F70 (450 + 52 * a0 + 1).toNat = 50) ∨ (0 ≤ F70 (450 + 52 * a0 + 1).toNat ∧ F70 (450 + 52 * a0 + 1).toNat < 50 ∧ r = F70 (450 + 52 * a0 + 1).toNat + 1)))) ∧ (m' 70 = if 0 ≤ r then zPt (zPt F70 (450 + 52 * a0 + 2 + F70 (450 + 52 * a0 + 1).toNat).toNat a1) (450 + 52 * a0 + 1).toNat (F70 (450 + 52 * a0 + 1).toNat + 1) else F70)) := by
  have hF0 : zFr W_150 m0 m0 := zFr.rfl
  generalize hQ : (fun (v : zV) (m' : zM) => ∃ r : Int, v = (0, r) ∧ (-4) ≤ r ∧ r ≤ 50 ∧ zInv m' ∧ zFr W_150 m0 m' ∧ ((r = -2 ∧ (a0 < 0 ∨ 3 < a0 ∨ a1 < 0 ∨ 127 < a1)) ∨ (0 ≤ a0 ∧ a0 ≤ 3 ∧ 0 ≤ a1 ∧ a1 ≤ 127 ∧ ((r = -4 ∧ F70 (450 + 52 * a0 + 1).toNat = 50) ∨ (0 ≤ F70 (450 + 52 * a0 + 1).toNat ∧ F70 (450 + 52 * a0 + 1).toNat < 50 ∧ r = F70 (450 + 52 * a0 + 1).toNat + 1)))) ∧ (m' 70 = if 0 ≤ r then zPt (zPt F70 (450 + 52 * a0 + 2 + F70 (450 + 52 * a0 + 1).toNat).toNat a1) (450 + 52 * a0 + 1).toNat (F70 (450 + 52 * a0 + 1).toNat + 1) else F70)) = Q
  show zW E d 150 0 [(2, 69), (0, a0), (0, a1), (9, 0)] [] m0 Q
  refine zw_3 zr_150_0 rfl ?_
  refine zw_C zr_150_1 (Or.inr rfl) zm_148 rfl rfl ⟨Nat.le_of_ble_eq_true rfl, Nat.le_of_ble_eq_true rfl, Nat.le_of_ble_eq_true rfl, rfl, by decide⟩ (by omega) (P := (fun v m' => zW E (d) 150 4 [(2, 69), (0, a0), (0, a1), (9, 0)] (if v.1 = 9 then [] else v :: []) m' Q)) ?_ (fun _ _ h => h)
  generalize hQ1 : (fun v m' => zW E (d) 150 4 [(2, 69), (0, a0), (0, a1), (9, 0)] (if v.1 = 9 then [] else v :: []) m' Q) = Q1
  show zW E (d - 1) 148 0 [(0, a0)] [] m0 Q1
  refine zw_3 zr_148_0 rfl ?_
  refine zw_36 zr_148_1 ?_
  refine zw_push zr_148_2 ?_
  refine zw_push zr_148_3 ?_
  refine zw_C zr_148_6 (Or.inr rfl) zm_140 rfl rfl ⟨Nat.le_of_ble_eq_true rfl, Nat.le_of_ble_eq_true rfl, Nat.le_of_ble_eq_true rfl, rfl, by decide⟩ (by omega) (P := (fun v m' => zW E (d - 1) 148 9 [(0, a0)] (if v.1 = 9 then [] else v :: []) m' Q1)) ?_ (fun _ _ h => h)
  generalize hQ2 : (fun v m' => zW E (d - 1) 148 9 [(0, a0)] (if v.1 = 9 then [] else v :: []) m' Q1) = Q2
  show zW E (d - 1 - 1) 140 0 [(1, a0), (9, 0), (1, 0), (9, 0), (1, 3), (9, 0)] [] m0 Q2
  refine zw_5 zr_140_0 rfl ?_
  refine zw_5 zr_140_1 rfl ?_
  refine zw_39_0 zr_140_2 zr_140_3 ?_ ?_
  · intro h1
    refine zw_push zr_140_17 ?_
    refine zw_R zr_140_18 (by decide) zm_140 (v := (0, 0)) (zRetB (by omega)) ?_
    rw [← hQ2]
    show zW E (d - 1) 148 9 [(0, a0)] [(0, 0)] m0 Q1
    refine zw_R zr_148_9 (by decide) zm_148 (v := (0, 0)) (zRetB (by omega)) ?_
    rw [← hQ1]
    show zW E (d) 150 4 [(2, 69), (0, a0), (0, a1), (9, 0)] [(0, 0)] m0 Q
    refine zw_40_1 zr_150_4 ?_ ?_
    · intro h2
      refine zw_push zr_150_19 ?_
      refine zw_R zr_150_21 (by decide) zm_150 (v := (0, (-2))) rfl ?_
      rw [← hQ]; exact ⟨_, rfl, by omega, by omega, hI0, hF0, by omega, by rw [hG70]; first | exact (if_neg (by omega)).symm | exact (if_pos (by omega)).symm | (rw [qzz]; first | exact (if_neg (by omega)).symm | exact (if_pos (by omega)).symm)⟩
    · intro h5; omega
  · intro h6
    refine zw_5 zr_140_6 rfl ?_
    refine zw_6 zr_140_7 rfl ?_
    refine zw_39_2 zr_140_9 zr_140_10 ?_ ?_
    · intro h7
      refine zw_push zr_140_17 ?_
      refine zw_R zr_140_18 (by decide) zm_140 (v := (0, 0)) (zRetB (by omega)) ?_
      rw [← hQ2]
      show zW E (d - 1) 148 9 [(0, a0)] [(0, 0)] m0 Q1
      refine zw_R zr_148_9 (by decide) zm_148 (v := (0, 0)) (zRetB (by omega)) ?_
      rw [← hQ1]
      show zW E (d) 150 4 [(2, 69), (0, a0), (0, a1), (9, 0)] [(0, 0)] m0 Q
      refine zw_40_1 zr_150_4 ?_ ?_
      · intro h8
        refine zw_push zr_150_19 ?_
        refine zw_R zr_150_21 (by decide) zm_150 (v := (0, (-2))) rfl ?_
        rw [← hQ]; exact ⟨_, rfl, by omega, by omega, hI0, hF0, by omega, by rw [hG70]; first | exact (if_neg (by omega)).symm | exact (if_pos (by omega)).symm | (rw [qzz]; first | exact (if_neg (by omega)).symm | exact (if_pos (by omega)).symm)⟩
      · intro h11; omega
    · intro h12
      refine zw_push zr_140_13 ?_
      refine zw_42 zr_140_14 ?_
      refine zw_R zr_140_18 (by decide) zm_140 (v := (0, 1)) (zRetB (by omega)) ?_
      rw [← hQ2]
      show zW E (d - 1) 148 9 [(0, a0)] [(0, 1)] m0 Q1
      refine zw_R zr_148_9 (by decide) zm_148 (v := (0, 1)) (zRetB (by omega)) ?_
      rw [← hQ1]
      show zW E (d) 150 4 [(2, 69), (0, a0), (0, a1), (9, 0)] [(0, 1)] m0 Q
      refine zw_40_1 zr_150_4 ?_ ?_
      · intro h13; omega
      · intro h14
        refine zw_3 zr_150_7 rfl ?_
        refine zw_36 zr_150_8 ?_
        refine zw_push zr_150_9 ?_
        refine zw_push zr_150_10 ?_
        refine zw_C zr_150_13 (Or.inr rfl) zm_140 rfl rfl ⟨Nat.le_of_ble_eq_true rfl, Nat.le_of_ble_eq_true rfl, Nat.le_of_ble_eq_true rfl, rfl, by decide⟩ (by omega) (P := (fun v m' => zW E (d) 150 16 [(2, 69), (0, a0), (0, a1), (9, 0)] (if v.1 = 9 then [] else v :: []) m' Q)) ?_ (fun _ _ h => h)
        generalize hQ1 : (fun v m' => zW E (d) 150 16 [(2, 69), (0, a0), (0, a1), (9, 0)] (if v.1 = 9 then [] else v :: []) m' Q) = Q1
        show zW E (d - 1) 140 0 [(1, a1), (9, 0), (1, 0), (9, 0), (1, 127), (9, 0)] [] m0 Q1
        refine zw_5 zr_140_0 rfl ?_
        refine zw_5 zr_140_1 rfl ?_
        refine zw_39_0 zr_140_2 zr_140_3 ?_ ?_
        · intro h15
          refine zw_push zr_140_17 ?_
          refine zw_R zr_140_18 (by decide) zm_140 (v := (0, 0)) (zRetB (by omega)) ?_
          rw [← hQ1]
          show zW E (d) 150 16 [(2, 69), (0, a0), (0, a1), (9, 0)] [(0, 0)] m0 Q
          refine zw_40_4 zr_150_16 ?_ ?_
          · intro h16; omega
          · intro h17
            refine zw_push zr_150_19 ?_
            refine zw_R zr_150_21 (by decide) zm_150 (v := (0, (-2))) rfl ?_
            rw [← hQ]; exact ⟨_, rfl, by omega, by omega, hI0, hF0, by omega, by rw [hG70]; first | exact (if_neg (by omega)).symm | exact (if_pos (by omega)).symm | (rw [qzz]; first | exact (if_neg (by omega)).symm | exact (if_pos (by omega)).symm)⟩
        · intro h20
          refine zw_5 zr_140_6 rfl ?_
          refine zw_6 zr_140_7 rfl ?_
          refine zw_39_2 zr_140_9 zr_140_10 ?_ ?_
          · intro h21
            refine zw_push zr_140_17 ?_
            refine zw_R zr_140_18 (by decide) zm_140 (v := (0, 0)) (zRetB (by omega)) ?_
            rw [← hQ1]
            show zW E (d) 150 16 [(2, 69), (0, a0), (0, a1), (9, 0)] [(0, 0)] m0 Q
            refine zw_40_4 zr_150_16 ?_ ?_
            · intro h22; omega
            · intro h23
              refine zw_push zr_150_19 ?_
              refine zw_R zr_150_21 (by decide) zm_150 (v := (0, (-2))) rfl ?_
              rw [← hQ]; exact ⟨_, rfl, by omega, by omega, hI0, hF0, by omega, by rw [hG70]; first | exact (if_neg (by omega)).symm | exact (if_pos (by omega)).symm | (rw [qzz]; first | exact (if_neg (by omega)).symm | exact (if_pos (by omega)).symm)⟩
          · intro h26
            refine zw_push zr_140_13 ?_
            refine zw_42 zr_140_14 ?_
            refine zw_R zr_140_18 (by decide) zm_140 (v := (0, 1)) (zRetB (by omega)) ?_
            rw [← hQ1]
            show zW E (d) 150 16 [(2, 69), (0, a0), (0, a1), (9, 0)] [(0, 1)] m0 Q
            refine zw_40_4 zr_150_16 ?_ ?_
            · intro h27
              refine zw_7 zr_150_22 rfl ?_
              refine zw_46r (s := 70) zr_150_23 rfl rfl rfl rfl ?_
              refine zw_push zr_150_26 ?_
              refine zw_push zr_150_29 ?_
              refine zw_3 zr_150_31 rfl ?_
              refine zw_18 zr_150_32 (by omega) ?_
              refine zw_16 zr_150_33 (by omega) ?_
              refine zw_push zr_150_34 ?_
              refine zw_16 zr_150_35 (by omega) ?_
              refine zw_48 (c := 70) (len := 826) zr_150_36 rfl rfl (by omega) (by omega) ?_
              intro x28 ex28
              have bx28 := ib_70_s1 hI0 (k := (((450 + (52 * a0)) + 1)).toNat) (by omega)
              rw [← ex28] at bx28
              have qx28 : x28 = F70 (((450 + (52 * a0)) + 1)).toNat := by rw [← hG70]; exact ex28
              clear ex28
              refine zw_9 (L' := [(2, 69), (0, a0), (0, a1), (0, x28)]) zr_150_37 (Nat.le_of_ble_eq_true rfl) rfl ?_
              refine zw_3 zr_150_38 rfl ?_
              refine zw_push zr_150_39 ?_
              refine zw_41_4 zr_150_41 ?_ ?_
              · intro h29
                refine zw_7 zr_150_47 rfl ?_
                refine zw_46r (s := 70) zr_150_48 rfl rfl rfl rfl ?_
                refine zw_push zr_150_51 ?_
                refine zw_push zr_150_54 ?_
                refine zw_3 zr_150_56 rfl ?_
                refine zw_18 zr_150_57 (by omega) ?_
                refine zw_16 zr_150_58 (by omega) ?_
                refine zw_push zr_150_59 ?_
                refine zw_16 zr_150_60 (by omega) ?_
                refine zw_3 zr_150_61 rfl ?_
                refine zw_16 zr_150_62 (by omega) ?_
                refine zw_3 zr_150_63 rfl ?_
                refine zw_49 (c := 70) (len := 826) zr_150_64 rfl rfl (by omega) (by omega) ?_
                intro m30 em30
                have hIm30 : zInv m30 := by rw [em30]; exact iu_70_s2 hI0 (by omega) (by omega)
                have hFm30 : zFr W_150 m0 m30 := by rw [em30]; exact hF0.any rfl
                have fm30_70 : m30 70 = zPt F70 (((((450 + (52 * a0)) + 2) + x28)).toNat) a1 := by rw [em30]; exact (zUp_ff (m := m0)).trans (congrArg (fun q => zPt q (((((450 + (52 * a0)) + 2) + x28)).toNat) a1) hG70)
                clear em30
                refine zw_7 zr_150_65 rfl ?_
                refine zw_46r (s := 70) zr_150_66 rfl rfl rfl rfl ?_
                refine zw_push zr_150_69 ?_
                refine zw_push zr_150_72 ?_
                refine zw_3 zr_150_74 rfl ?_
                refine zw_18 zr_150_75 (by omega) ?_
                refine zw_16 zr_150_76 (by omega) ?_
                refine zw_push zr_150_77 ?_
                refine zw_16 zr_150_78 (by omega) ?_
                refine zw_3 zr_150_79 rfl ?_
                refine zw_push zr_150_80 ?_
                refine zw_16 zr_150_81 (by omega) ?_
                refine zw_49 (c := 70) (len := 826) zr_150_82 rfl rfl (by omega) (by omega) ?_
                intro m31 em31
                have hIm31 : zInv m31 := by rw [em31]; exact iu_70_s1 hIm30 (by omega) (by omega)
                have hFm31 : zFr W_150 m0 m31 := by rw [em31]; exact hFm30.any rfl
                have fm31_70 : m31 70 = zPt (zPt F70 (((((450 + (52 * a0)) + 2) + x28)).toNat) a1) ((((450 + (52 * a0)) + 1)).toNat) ((x28 + 1)) := by rw [em31]; exact (zUp_ff (m := m30)).trans (congrArg (fun q => zPt q ((((450 + (52 * a0)) + 1)).toNat) ((x28 + 1))) fm30_70)
                clear em31
                refine zw_3 zr_150_83 rfl ?_
                refine zw_push zr_150_84 ?_
                refine zw_16 zr_150_85 (by omega) ?_
                refine zw_R zr_150_86 (by decide) zm_150 (v := (0, (x28 + 1))) rfl ?_
                rw [← hQ]; exact ⟨_, rfl, by omega, by omega, hIm31, hFm31, by omega, by rw [fm31_70]; first | exact (if_neg (by omega)).symm | exact (if_pos (by omega)).symm | (rw [qx28]; first | exact (if_neg (by omega)).symm | exact (if_pos (by omega)).symm)⟩
              · intro h34
                refine zw_push zr_150_44 ?_
                refine zw_R zr_150_46 (by decide) zm_150 (v := (0, (-4))) rfl ?_
                rw [← hQ]; exact ⟨_, rfl, by omega, by omega, hI0, hF0, by omega, by rw [hG70]; first | exact (if_neg (by omega)).symm | exact (if_pos (by omega)).symm | (rw [qx28]; first | exact (if_neg (by omega)).symm | exact (if_pos (by omega)).symm)⟩
            · intro h37; omega

abbrev W_107 : List (Nat × Nat) := [(10, 1000)]
set_option maxHeartbeats 8000000 in
theorem th_107 {E : zE} {d : Nat} {m0 : zM} {a0 : Int} {F10 : Nat → Int} (hd : 3 ≤ d) (hI0 : zInv m0) (hG10 : m0 10 = F10) (ha0 : (-2147483648) ≤ a0 ∧ a0 ≤ 2147483647) : zC E d 107 [(2, 0), (0, a0)] m0 (fun v m' => ∃ r : Int, v = (0, r) ∧ (-2) ≤ r ∧ r ≤ 50 ∧ zInv m' ∧ zFr W_107 m0 m' ∧ ((r = -2 ∧ (a0 < 0 ∨ 3 < a0)) ∨ (0 ≤ a0 ∧ a0 ≤ 3 ∧ 0 ≤ r ∧ r = F10 a0.toNat)) ∧ (m' 10 = if 0 ≤ r then zPt F10 a0.toNat 0 else F10)) := by
  have hF0 : zFr W_107 m0 m0 := zFr.rfl
  generalize hQ : (fun (v : zV) (m' : zM) => ∃ r : Int, v = (0, r) ∧ (-2) ≤ r ∧ r ≤ 50 ∧ zInv m' ∧ zFr W_107 m0 m' ∧ ((r = -2 ∧ (a0 < 0 ∨ 3 < a0)) ∨ (0 ≤ a0 ∧ a0 ≤ 3 ∧ 0 ≤ r ∧ r = F10 a0.toNat)) ∧ (m' 10 = if 0 ≤ r then zPt F10 a0.toNat 0 else F10)) = Q
  show zW E d 107 0 [(2, 0), (0, a0), (9, 0)] [] m0 Q
  refine zw_3 zr_107_0 rfl ?_
  refine zw_C zr_107_1 (Or.inr rfl) zm_104 rfl rfl ⟨Nat.le_of_ble_eq_true rfl, Nat.le_of_ble_eq_true rfl, Nat.le_of_ble_eq_true rfl, rfl, by decide⟩ (by omega) (P := (fun v m' => zW E (d) 107 4 [(2, 0), (0, a0), (9, 0)] (if v.1 = 9 then [] else v :: []) m' Q)) ?_ (fun _ _ h => h)
  generalize hQ1 : (fun v m' => zW E (d) 107 4 [(2, 0), (0, a0), (9, 0)] (if v.1 = 9 then [] else v :: []) m' Q) = Q1
  show zW E (d - 1) 104 0 [(0, a0)] [] m0 Q1
  refine zw_3 zr_104_0 rfl ?_
  refine zw_push zr_104_1 ?_
  refine zw_push zr_104_2 ?_
  refine zw_C zr_104_3 (Or.inr rfl) zm_100 rfl rfl ⟨Nat.le_of_ble_eq_true rfl, Nat.le_of_ble_eq_true rfl, Nat.le_of_ble_eq_true rfl, rfl, by decide⟩ (by omega) (P := (fun v m' => zW E (d - 1) 104 6 [(0, a0)] (if v.1 = 9 then [] else v :: []) m' Q1)) ?_ (fun _ _ h => h)
  generalize hQ2 : (fun v m' => zW E (d - 1) 104 6 [(0, a0)] (if v.1 = 9 then [] else v :: []) m' Q1) = Q2
  show zW E (d - 1 - 1) 100 0 [(0, a0), (0, 0), (0, 3)] [] m0 Q2
  refine zw_3 zr_100_0 rfl ?_
  refine zw_3 zr_100_1 rfl ?_
  refine zw_41_0 zr_100_2 ?_ ?_
  · intro h1
    refine zw_push zr_100_14 ?_
    refine zw_R zr_100_15 (by decide) zm_100 (v := (0, 0)) (zRetB (by omega)) ?_
    rw [← hQ2]
    show zW E (d - 1) 104 6 [(0, a0)] [(0, 0)] m0 Q1
    refine zw_R zr_104_6 (by decide) zm_104 (v := (0, 0)) (zRetB (by omega)) ?_
    rw [← hQ1]
    show zW E (d) 107 4 [(2, 0), (0, a0), (9, 0)] [(0, 0)] m0 Q
    refine zw_40_4 zr_107_4 ?_ ?_
    · intro h2; omega
    · intro h3
      refine zw_push zr_107_7 ?_
      refine zw_R zr_107_9 (by decide) zm_107 (v := (0, (-2))) rfl ?_
      rw [← hQ]; exact ⟨_, rfl, by omega, by omega, hI0, hF0, by omega, by rw [hG10]; first | exact (if_neg (by omega)).symm | exact (if_pos (by omega)).symm⟩
  · intro h6
    refine zw_3 zr_100_5 rfl ?_
    refine zw_3 zr_100_6 rfl ?_
    refine zw_41_2 zr_100_7 ?_ ?_
    · intro h7
      refine zw_push zr_100_14 ?_
      refine zw_R zr_100_15 (by decide) zm_100 (v := (0, 0)) (zRetB (by omega)) ?_
      rw [← hQ2]
      show zW E (d - 1) 104 6 [(0, a0)] [(0, 0)] m0 Q1
      refine zw_R zr_104_6 (by decide) zm_104 (v := (0, 0)) (zRetB (by omega)) ?_
      rw [← hQ1]
      show zW E (d) 107 4 [(2, 0), (0, a0), (9, 0)] [(0, 0)] m0 Q
      refine zw_40_4 zr_107_4 ?_ ?_
      · intro h8; omega
      · intro h9
        refine zw_push zr_107_7 ?_
        refine zw_R zr_107_9 (by decide) zm_107 (v := (0, (-2))) rfl ?_
        rw [← hQ]; exact ⟨_, rfl, by omega, by omega, hI0, hF0, by omega, by rw [hG10]; first | exact (if_neg (by omega)).symm | exact (if_pos (by omega)).symm⟩
    · intro h12
      refine zw_push zr_100_10 ?_
      refine zw_42 zr_100_11 ?_
      refine zw_R zr_100_15 (by decide) zm_100 (v := (0, 1)) (zRetB (by omega)) ?_
      rw [← hQ2]
      show zW E (d - 1) 104 6 [(0, a0)] [(0, 1)] m0 Q1
      refine zw_R zr_104_6 (by decide) zm_104 (v := (0, 1)) (zRetB (by omega)) ?_
      rw [← hQ1]
      show zW E (d) 107 4 [(2, 0), (0, a0), (9, 0)] [(0, 1)] m0 Q
      refine zw_40_4 zr_107_4 ?_ ?_
      · intro h13
        refine zw_7 zr_107_10 rfl ?_
        refine zw_46r (s := 1) zr_107_11 rfl rfl rfl rfl ?_
        refine zw_46r (s := 10) zr_107_14 rfl rfl rfl rfl ?_
        refine zw_3 zr_107_17 rfl ?_
        refine zw_48 (c := 10) (len := 4) zr_107_18 rfl rfl (by omega) (by omega) ?_
        intro x14 ex14
        have bx14 := ib_10 hI0 (k := (a0).toNat) (by omega)
        rw [← ex14] at bx14
        have qx14 : x14 = F10 (a0).toNat := by rw [← hG10]; exact ex14
        clear ex14
        refine zw_9 (L' := [(2, 0), (0, a0), (0, x14)]) zr_107_19 (Nat.le_of_ble_eq_true rfl) rfl ?_
        refine zw_7 zr_107_20 rfl ?_
        refine zw_46r (s := 1) zr_107_21 rfl rfl rfl rfl ?_
        refine zw_46r (s := 10) zr_107_24 rfl rfl rfl rfl ?_
        refine zw_3 zr_107_27 rfl ?_
        refine zw_push zr_107_28 ?_
        refine zw_49 (c := 10) (len := 4) zr_107_29 rfl rfl (by omega) (by omega) ?_
        intro m15 em15
        have hIm15 : zInv m15 := by rw [em15]; exact iu_10 hI0 (by omega)
        have hFm15 : zFr W_107 m0 m15 := by rw [em15]; exact hF0.any rfl
        have fm15_10 : m15 10 = zPt F10 ((a0).toNat) 0 := by rw [em15]; exact (zUp_ff (m := m0)).trans (congrArg (fun q => zPt q ((a0).toNat) 0) hG10)
        clear em15
        refine zw_3 zr_107_30 rfl ?_
        refine zw_R zr_107_31 (by decide) zm_107 (v := (0, x14)) rfl ?_
        rw [← hQ]; exact ⟨_, rfl, by omega, by omega, hIm15, hFm15, by omega, by rw [fm15_10]; first | exact (if_neg (by omega)).symm | exact (if_pos (by omega)).symm⟩
      · intro h18; omega

abbrev W_151 : List (Nat × Nat) := [(70, 1000)]
set_option maxHeartbeats 8000000 in
theorem th_151 {E : zE} {d : Nat} {m0 : zM} {a0 : Int} {F70 : Nat → Int} (hd : 3 ≤ d) (hI0 : zInv m0) (hG70 : m0 70 = F70) (ha0 : (-2147483648) ≤ a0 ∧ a0 ≤ 2147483647) : zC E d 151 [(2, 69), (0, a0)] m0 (fun v m' => ∃ r : Int, v = (0, r) ∧ (-2) ≤ r ∧ r ≤ 50 ∧ zInv m' ∧ zFr W_151 m0 m' ∧ ((r = -2 ∧ (a0 < 0 ∨ 3 < a0)) ∨ (0 ≤ a0 ∧ a0 ≤ 3 ∧ 0 ≤ r ∧ r = F70 (450 + 52 * a0 + 1).toNat)) ∧ (m' 70 = if 0 ≤ r then zPt F70 (450 + 52 * a0 + 1).toNat 0 else F70)) := by
  have hF0 : zFr W_151 m0 m0 := zFr.rfl
  generalize hQ : (fun (v : zV) (m' : zM) => ∃ r : Int, v = (0, r) ∧ (-2) ≤ r ∧ r ≤ 50 ∧ zInv m' ∧ zFr W_151 m0 m' ∧ ((r = -2 ∧ (a0 < 0 ∨ 3 < a0)) ∨ (0 ≤ a0 ∧ a0 ≤ 3 ∧ 0 ≤ r ∧ r = F70 (450 + 52 * a0 + 1).toNat)) ∧ (m' 70 = if 0 ≤ r then zPt F70 (450 + 52 * a0 + 1).toNat 0 else F70)) = Q
  show zW E d 151 0 [(2, 69), (0, a0), (9, 0)] [] m0 Q
  refine zw_3 zr_151_0 rfl ?_
  refine zw_C zr_151_1 (Or.inr rfl) zm_148 rfl rfl ⟨Nat.le_of_ble_eq_true rfl, Nat.le_of_ble_eq_true rfl, Nat.le_of_ble_eq_true rfl, rfl, by decide⟩ (by omega) (P := (fun v m' => zW E (d) 151 4 [(2, 69), (0, a0), (9, 0)] (if v.1 = 9 then [] else v :: []) m' Q)) ?_ (fun _ _ h => h)
  generalize hQ1 : (fun v m' => zW E (d) 151 4 [(2, 69), (0, a0), (9, 0)] (if v.1 = 9 then [] else v :: []) m' Q) = Q1
  show zW E (d - 1) 148 0 [(0, a0)] [] m0 Q1
  refine zw_3 zr_148_0 rfl ?_
  refine zw_36 zr_148_1 ?_
  refine zw_push zr_148_2 ?_
  refine zw_push zr_148_3 ?_
  refine zw_C zr_148_6 (Or.inr rfl) zm_140 rfl rfl ⟨Nat.le_of_ble_eq_true rfl, Nat.le_of_ble_eq_true rfl, Nat.le_of_ble_eq_true rfl, rfl, by decide⟩ (by omega) (P := (fun v m' => zW E (d - 1) 148 9 [(0, a0)] (if v.1 = 9 then [] else v :: []) m' Q1)) ?_ (fun _ _ h => h)
  generalize hQ2 : (fun v m' => zW E (d - 1) 148 9 [(0, a0)] (if v.1 = 9 then [] else v :: []) m' Q1) = Q2
  show zW E (d - 1 - 1) 140 0 [(1, a0), (9, 0), (1, 0), (9, 0), (1, 3), (9, 0)] [] m0 Q2
  refine zw_5 zr_140_0 rfl ?_
  refine zw_5 zr_140_1 rfl ?_
  refine zw_39_0 zr_140_2 zr_140_3 ?_ ?_
  · intro h1
    refine zw_push zr_140_17 ?_
    refine zw_R zr_140_18 (by decide) zm_140 (v := (0, 0)) (zRetB (by omega)) ?_
    rw [← hQ2]
    show zW E (d - 1) 148 9 [(0, a0)] [(0, 0)] m0 Q1
    refine zw_R zr_148_9 (by decide) zm_148 (v := (0, 0)) (zRetB (by omega)) ?_
    rw [← hQ1]
    show zW E (d) 151 4 [(2, 69), (0, a0), (9, 0)] [(0, 0)] m0 Q
    refine zw_40_4 zr_151_4 ?_ ?_
    · intro h2; omega
    · intro h3
      refine zw_push zr_151_7 ?_
      refine zw_R zr_151_9 (by decide) zm_151 (v := (0, (-2))) rfl ?_
      rw [← hQ]; exact ⟨_, rfl, by omega, by omega, hI0, hF0, by omega, by rw [hG70]; first | exact (if_neg (by omega)).symm | exact (if_pos (by omega)).symm⟩
  · intro h6
    refine zw_5 zr_140_6 rfl ?_
    refine zw_6 zr_140_7 rfl ?_
    refine zw_39_2 zr_140_9 zr_140_10 ?_ ?_
    · intro h7
      refine zw_push zr_140_17 ?_
      refine zw_R zr_140_18 (by decide) zm_140 (v := (0, 0)) (zRetB (by omega)) ?_
      rw [← hQ2]
      show zW E (d - 1) 148 9 [(0, a0)] [(0, 0)] m0 Q1
      refine zw_R zr_148_9 (by decide) zm_148 (v := (0, 0)) (zRetB (by omega)) ?_
      rw [← hQ1]
      show zW E (d) 151 4 [(2, 69), (0, a0), (9, 0)] [(0, 0)] m0 Q
      refine zw_40_4 zr_151_4 ?_ ?_
      · intro h8; omega
      · intro h9
        refine zw_push zr_151_7 ?_
        refine zw_R zr_151_9 (by decide) zm_151 (v := (0, (-2))) rfl ?_
        rw [← hQ]; exact ⟨_, rfl, by omega, by omega, hI0, hF0, by omega, by rw [hG70]; first | exact (if_neg (by omega)).symm | exact (if_pos (by omega)).symm⟩
    · intro h12
      refine zw_push zr_140_13 ?_
      refine zw_42 zr_140_14 ?_
      refine zw_R zr_140_18 (by decide) zm_140 (v := (0, 1)) (zRetB (by omega)) ?_
      rw [← hQ2]
      show zW E (d - 1) 148 9 [(0, a0)] [(0, 1)] m0 Q1
      refine zw_R zr_148_9 (by decide) zm_148 (v := (0, 1)) (zRetB (by omega)) ?_
      rw [← hQ1]
      show zW E (d) 151 4 [(2, 69), (0, a0), (9, 0)] [(0, 1)] m0 Q
      refine zw_40_4 zr_151_4 ?_ ?_
      · intro h13
        refine zw_7 zr_151_10 rfl ?_
        refine zw_46r (s := 70) zr_151_11 rfl rfl rfl rfl ?_
        refine zw_push zr_151_14 ?_
        refine zw_push zr_151_17 ?_
        refine zw_3 zr_151_19 rfl ?_
        refine zw_18 zr_151_20 (by omega) ?_
        refine zw_16 zr_151_21 (by omega) ?_
        refine zw_push zr_151_22 ?_
        refine zw_16 zr_151_23 (by omega) ?_
        refine zw_48 (c := 70) (len := 826) zr_151_24 rfl rfl (by omega) (by omega) ?_
        intro x14 ex14
        have bx14 := ib_70_s1 hI0 (k := (((450 + (52 * a0)) + 1)).toNat) (by omega)
        rw [← ex14] at bx14
        have qx14 : x14 = F70 (((450 + (52 * a0)) + 1)).toNat := by rw [← hG70]; exact ex14
        clear ex14
        refine zw_9 (L' := [(2, 69), (0, a0), (0, x14)]) zr_151_25 (Nat.le_of_ble_eq_true rfl) rfl ?_
        refine zw_7 zr_151_26 rfl ?_
        refine zw_46r (s := 70) zr_151_27 rfl rfl rfl rfl ?_
        refine zw_push zr_151_30 ?_
        refine zw_push zr_151_33 ?_
        refine zw_3 zr_151_35 rfl ?_
        refine zw_18 zr_151_36 (by omega) ?_
        refine zw_16 zr_151_37 (by omega) ?_
        refine zw_push zr_151_38 ?_
        refine zw_16 zr_151_39 (by omega) ?_
        refine zw_push zr_151_40 ?_
        refine zw_49 (c := 70) (len := 826) zr_151_41 rfl rfl (by omega) (by omega) ?_
        intro m15 em15
        have hIm15 : zInv m15 := by rw [em15]; exact iu_70_s1 hI0 (by omega) (by omega)
        have hFm15 : zFr W_151 m0 m15 := by rw [em15]; exact hF0.any rfl
        have fm15_70 : m15 70 = zPt F70 ((((450 + (52 * a0)) + 1)).toNat) 0 := by rw [em15]; exact (zUp_ff (m := m0)).trans (congrArg (fun q => zPt q ((((450 + (52 * a0)) + 1)).toNat) 0) hG70)
        clear em15
        refine zw_3 zr_151_42 rfl ?_
        refine zw_R zr_151_43 (by decide) zm_151 (v := (0, x14)) rfl ?_
        rw [← hQ]; exact ⟨_, rfl, by omega, by omega, hIm15, hFm15, by omega, by rw [fm15_70]; first | exact (if_neg (by omega)).symm | exact (if_pos (by omega)).symm⟩
      · intro h18; omega

abbrev W_6 : List (Nat × Nat) := [(45, 6)]
set_option maxHeartbeats 8000000 in
theorem th_6 {E : zE} {d : Nat} {m0 : zM} {g0 : Int} {g1 : Int} {g2 : Int} {F47 : Nat → Int} (hd : 1 ≤ d) (hI0 : zInv m0) (hg0 : m0 45 6 = g0) (hg1 : m0 45 1 = g1) (hg2 : m0 45 5 = g2) (hG47 : m0 47 = F47) (hp0 : g0 ≤ g2) : zC E d 6 [(2, 45)] m0 (fun v m' => ∃ r : Int, v = (0, r) ∧ (-1) ≤ r ∧ r ≤ 127 ∧ zInv m' ∧ zFr W_6 m0 m' ∧ (r = -1 ∨ m' 45 6 ≤ 49) ∧ (zNx (chf F47 g2) g1 g0 (m' 45 6) r) ∧ (g0 ≤ m' 45 6 ∧ m' 45 6 ≤ g2) ∧ (r = -1 ∨ m' 45 6 < g2) ∧ (g1 = -1 ∨ r = -1)) := by
  have hF0 : zFr W_6 m0 m0 := zFr.rfl
  have bg0 := ib_45_6 hI0
  rw [hg0] at bg0
  have bg1 := hI0.fi (c := 45) (k := 1) rfl
  rw [hg1] at bg1
  have bg2 := ib_45_5 hI0
  rw [hg2] at bg2
  generalize hQ : (fun (v : zV) (m' : zM) => ∃ r : Int, v = (0, r) ∧ (-1) ≤ r ∧ r ≤ 127 ∧ zInv m' ∧ zFr W_6 m0 m' ∧ (r = -1 ∨ m' 45 6 ≤ 49) ∧ (zNx (chf F47 g2) g1 g0 (m' 45 6) r) ∧ (g0 ≤ m' 45 6 ∧ m' 45 6 ≤ g2) ∧ (r = -1 ∨ m' 45 6 < g2) ∧ (g1 = -1 ∨ r = -1)) = Q
  show zW E d 6 0 [(2, 45)] [] m0 Q
  refine zw_7 zr_6_0 rfl ?_
  refine zw_46i zr_6_1 hg1 rfl rfl rfl ?_
  refine zw_push zr_6_4 ?_
  refine zw_41_1 zr_6_5 ?_ ?_
  · intro h1
    have lp10_4 : ∀ (nlp10_4 : Nat) (p3 : Int) (m2 : zM), zInv m2 → zFr W_6 m0 m2 → m2 45 1 = g1 → m2 45 5 = g2 → m2 45 6 = p3 → m2 47 = F47 → 0 ≤ p3 → p3 ≤ 50 → (zBl (chf F47 g2) g0 p3) → (g0 ≤ p3 ∧ p3 ≤ g2) → (50 - p3).toNat < nlp10_4 → zW E (d) 6 10 [(2, 45)] [] m2 Q := by
      intro nlp10_4
      induction nlp10_4 with
      | zero =>
        intros
        exact absurd (by assumption : _ < 0) (Nat.not_lt_zero _)
      | succ nlp10_4 ihlp10_4 =>
        intro p3 m2 hIm2 hFm2 km2_45_1 km2_45_5 km2_45_6 fm2_47 lp3 up3 hv0lp10_4 hv1lp10_4 hmlp10_4
        refine zw_7 zr_6_10 rfl ?_
        refine zw_46i zr_6_11 km2_45_6 rfl rfl rfl ?_
        refine zw_7 zr_6_14 rfl ?_
        refine zw_46i zr_6_15 km2_45_5 rfl rfl rfl ?_
        refine zw_41_3 zr_6_18 ?_ ?_
        · intro h6
          refine zw_7 zr_6_48 rfl ?_
          refine zw_46i zr_6_49 km2_45_6 rfl rfl rfl ?_
          refine zw_7 zr_6_52 rfl ?_
          refine zw_46i zr_6_53 km2_45_5 rfl rfl rfl ?_
          refine zw_41_3 zr_6_56 ?_ ?_
          · intro h7
            refine zw_push zr_6_71 ?_
            have hD : chf F47 g2 (p3).toNat = (-1) := by first | exact chf_at (by assumption) (by omega) | exact chf_ge (by omega) | (exfalso; omega)
            refine zw_R zr_6_72 (by decide) zm_6 (v := (0, (-1))) rfl ?_
            rw [← hQ]; exact ⟨_, rfl, by omega, by omega, hIm2, hFm2, by omega, by rw [km2_45_6]; first | exact zNx_b (by omega) | exact zBl_x hv0lp10_4 hD (by omega) | (exfalso; omega), by omega, by omega, by omega⟩
          · intro h14
            refine zw_7 zr_6_59 rfl ?_
            refine zw_46r (s := 47) zr_6_60 rfl rfl rfl rfl ?_
            refine zw_7 zr_6_63 rfl ?_
            refine zw_46i zr_6_64 km2_45_6 rfl rfl rfl ?_
            refine zw_48 (c := 47) (len := 50) zr_6_67 rfl rfl (by omega) (by omega) ?_
            intro x15 ex15
            have bx15 := ib_47 hIm2 (k := (p3).toNat) (by omega)
            rw [← ex15] at bx15
            have qx15 : x15 = F47 (p3).toNat := by rw [← fm2_47]; exact ex15
            clear ex15
            refine zw_42 zr_6_68 ?_
            have hD : chf F47 g2 (p3).toNat = x15 := by first | exact chf_at (by assumption) (by omega) | exact chf_ge (by omega) | (exfalso; omega)
            refine zw_R zr_6_72 (by decide) zm_6 (v := (0, x15)) rfl ?_
            rw [← hQ]; exact ⟨_, rfl, by omega, by omega, hIm2, hFm2, by omega, by rw [km2_45_6]; first | exact zNx_b (by omega) | exact zBl_x hv0lp10_4 hD (by omega) | (exfalso; omega), by omega, by omega, by omega⟩
        · intro h22
          refine zw_7 zr_6_21 rfl ?_
          refine zw_46r (s := 47) zr_6_22 rfl rfl rfl rfl ?_
          refine zw_7 zr_6_25 rfl ?_
          refine zw_46i zr_6_26 km2_45_6 rfl rfl rfl ?_
          refine zw_48 (c := 47) (len := 50) zr_6_29 rfl rfl (by omega) (by omega) ?_
          intro x23 ex23
          have bx23 := ib_47 hIm2 (k := (p3).toNat) (by omega)
          rw [← ex23] at bx23
          have qx23 : x23 = F47 (p3).toNat := by rw [← fm2_47]; exact ex23
          refine zw_push zr_6_30 ?_
          have hC := chf_at (f := F47) (n := g2) (p := p3) qx23 (by omega)
          refine zw_41_4 zr_6_32 ?_ ?_
          · intro h25
            refine zw_7 zr_6_48 rfl ?_
            refine zw_46i zr_6_49 km2_45_6 rfl rfl rfl ?_
            refine zw_7 zr_6_52 rfl ?_
            refine zw_46i zr_6_53 km2_45_5 rfl rfl rfl ?_
            refine zw_41_3 zr_6_56 ?_ ?_
            · intro h26
              refine zw_push zr_6_71 ?_
              have hD : chf F47 g2 (p3).toNat = (-1) := by first | exact chf_at (by assumption) (by omega) | exact chf_ge (by omega) | (exfalso; omega)
              refine zw_R zr_6_72 (by decide) zm_6 (v := (0, (-1))) rfl ?_
              rw [← hQ]; exact ⟨_, rfl, by omega, by omega, hIm2, hFm2, by omega, by rw [km2_45_6]; first | exact zNx_b (by omega) | exact zBl_x hv0lp10_4 hD (by omega) | (exfalso; omega), by omega, by omega, by omega⟩
            · intro h33
              refine zw_7 zr_6_59 rfl ?_
              refine zw_46r (s := 47) zr_6_60 rfl rfl rfl rfl ?_
              refine zw_7 zr_6_63 rfl ?_
              refine zw_46i zr_6_64 km2_45_6 rfl rfl rfl ?_
              refine zw_48k (c := 47) (len := 50) zr_6_67 rfl rfl (by omega) (by omega) rfl ex23.symm ?_
              refine zw_42 zr_6_68 ?_
              have hD : chf F47 g2 (p3).toNat = x23 := by first | exact chf_at (by assumption) (by omega) | exact chf_ge (by omega) | (exfalso; omega)
              refine zw_R zr_6_72 (by decide) zm_6 (v := (0, x23)) rfl ?_
              rw [← hQ]; exact ⟨_, rfl, by omega, by omega, hIm2, hFm2, by omega, by rw [km2_45_6]; first | exact zNx_b (by omega) | exact zBl_x hv0lp10_4 hD (by omega) | (exfalso; omega), by omega, by omega, by omega⟩
          · intro h40
            refine zw_7 zr_6_35 rfl ?_
            refine zw_43 zr_6_36 rfl ?_
            refine zw_46i zr_6_37 km2_45_6 rfl rfl rfl ?_
            refine zw_push zr_6_40 ?_
            refine zw_16 zr_6_41 (by omega) ?_
            refine zw_47 (c := 45) zr_6_42 rfl ⟨rfl, by decide, rfl⟩ ?_
            intro m41 em41
            have hIm41 : zInv m41 := by rw [em41]; exact hIm2.bd (r := 45) (k := 6) (lo := 0) (hi := 50) rfl (by omega) (by decide) (by decide) (by decide)
            have hFm41 : zFr W_6 m0 m41 := by rw [em41]; exact hFm2.up rfl
            have km41_45_1 : m41 45 1 = g1 := by rw [em41, zUp_ne (by omega)]; exact km2_45_1
            have km41_45_5 : m41 45 5 = g2 := by rw [em41, zUp_ne (by omega)]; exact km2_45_5
            have km41_45_6 : m41 45 6 = (p3 + 1) := by rw [em41]; exact zUp_eq _ _ _ _
            have fm41_47 : m41 47 = F47 := by rw [em41, zUp_fn (by decide)]; exact fm2_47
            clear em41
            refine zw_42 zr_6_45 ?_
            exact zw_less (L := [(2, 45)]) ⟨Or.inr rfl, trivial⟩ (ihlp10_4 ((p3 + 1)) m41 hIm41 hFm41  km41_45_1 km41_45_5 km41_45_6 fm41_47 (by omega) (by omega) (zBl_s hv0lp10_4 hC (by omega)) (by omega) (by omega))
    exact lp10_4 _ (g0) m0 hI0 hF0  hg1 hg2 hg0 hG47 (by omega) (by omega) (zBl_0) (by omega) (Nat.lt_succ_self _)
  · intro h44
    refine zw_push zr_6_8 ?_
    refine zw_R zr_6_9 (by decide) zm_6 (v := (0, (-1))) rfl ?_
    rw [← hQ]; exact ⟨_, rfl, by omega, by omega, hI0, hF0, by omega, by rw [hg0]; first | exact zNx_b (by omega) | exact zBl_x zz hD (by omega) | (exfalso; omega), by omega, by omega, by omega⟩

set_option maxHeartbeats 8000000 in
theorem th_7 {E : zE} {d : Nat} {m0 : zM} {a0 : Int} (hd : 1 ≤ d) (hI0 : zInv m0) (ha0 : (-1) ≤ a0 ∧ a0 ≤ 127) : zC E d 7 [(0, a0)] m0 (fun v m' => ∃ r : Int, v = (0, r) ∧ (-1) ≤ r ∧ r ≤ 4 ∧ m0 = m' ∧ (r = rkv a0 - 1) ∧ (r = -1 ∨ 33 ≤ a0)) := by
  generalize hQ : (fun (v : zV) (m' : zM) => ∃ r : Int, v = (0, r) ∧ (-1) ≤ r ∧ r ≤ 4 ∧ m0 = m' ∧ (r = rkv a0 - 1) ∧ (r = -1 ∨ 33 ≤ a0)) = Q
  show zW E d 7 0 [(0, a0)] [] m0 Q
  refine zw_3 zr_7_0 rfl ?_
  by_cases h1 : a0 = 38
  · refine zw_112 (off := 85) (t := 86) zr_7_1 (by rw [h1]; rfl) rfl ?_
    refine zw_push zr_7_86 ?_
    refine zw_R zr_7_87 (by decide) zm_7 (v := (0, 1)) rfl ?_
    rw [← hQ]; exact ⟨_, rfl, by omega, by omega, rfl, by have := rkv_c a0; omega, by omega⟩
  by_cases h4 : a0 = 42
  · refine zw_112 (off := 91) (t := 92) zr_7_1 (by rw [h4]; rfl) rfl ?_
    refine zw_push zr_7_92 ?_
    refine zw_R zr_7_93 (by decide) zm_7 (v := (0, 4)) rfl ?_
    rw [← hQ]; exact ⟨_, rfl, by omega, by omega, rfl, by have := rkv_c a0; omega, by omega⟩
  by_cases h7 : a0 = 43
  · refine zw_112 (off := 89) (t := 90) zr_7_1 (by rw [h7]; rfl) rfl ?_
    refine zw_push zr_7_90 ?_
    refine zw_R zr_7_91 (by decide) zm_7 (v := (0, 3)) rfl ?_
    rw [← hQ]; exact ⟨_, rfl, by omega, by omega, rfl, by have := rkv_c a0; omega, by omega⟩
  by_cases h10 : a0 = 45
  · refine zw_112 (off := 89) (t := 90) zr_7_1 (by rw [h10]; rfl) rfl ?_
    refine zw_push zr_7_90 ?_
    refine zw_R zr_7_91 (by decide) zm_7 (v := (0, 3)) rfl ?_
    rw [← hQ]; exact ⟨_, rfl, by omega, by omega, rfl, by have := rkv_c a0; omega, by omega⟩
  by_cases h13 : a0 = 47
  · refine zw_112 (off := 91) (t := 92) zr_7_1 (by rw [h13]; rfl) rfl ?_
    refine zw_push zr_7_92 ?_
    refine zw_R zr_7_93 (by decide) zm_7 (v := (0, 4)) rfl ?_
    rw [← hQ]; exact ⟨_, rfl, by omega, by omega, rfl, by have := rkv_c a0; omega, by omega⟩
  by_cases h16 : a0 = 60
  · refine zw_112 (off := 87) (t := 88) zr_7_1 (by rw [h16]; rfl) rfl ?_
    refine zw_push zr_7_88 ?_
    refine zw_R zr_7_89 (by decide) zm_7 (v := (0, 2)) rfl ?_
    rw [← hQ]; exact ⟨_, rfl, by omega, by omega, rfl, by have := rkv_c a0; omega, by omega⟩
  by_cases h19 : a0 = 61
  · refine zw_112 (off := 87) (t := 88) zr_7_1 (by rw [h19]; rfl) rfl ?_
    refine zw_push zr_7_88 ?_
    refine zw_R zr_7_89 (by decide) zm_7 (v := (0, 2)) rfl ?_
    rw [← hQ]; exact ⟨_, rfl, by omega, by omega, rfl, by have := rkv_c a0; omega, by omega⟩
  by_cases h22 : a0 = 62
  · refine zw_112 (off := 87) (t := 88) zr_7_1 (by rw [h22]; rfl) rfl ?_
    refine zw_push zr_7_88 ?_
    refine zw_R zr_7_89 (by decide) zm_7 (v := (0, 2)) rfl ?_
    rw [← hQ]; exact ⟨_, rfl, by omega, by omega, rfl, by have := rkv_c a0; omega, by omega⟩
  by_cases h25 : a0 = 124
  · refine zw_112 (off := 83) (t := 84) zr_7_1 (by rw [h25]; rfl) rfl ?_
    refine zw_push zr_7_84 ?_
    refine zw_R zr_7_85 (by decide) zm_7 (v := (0, 0)) rfl ?_
    rw [← hQ]; exact ⟨_, rfl, by omega, by omega, rfl, by have := rkv_c a0; omega, by omega⟩
  refine zw_112 (off := 93) (t := 94) zr_7_1 (zlsw_df (by simp; omega)) rfl ?_
  refine zw_push zr_7_94 ?_
  refine zw_R zr_7_95 (by decide) zm_7 (v := (0, (-1))) rfl ?_
  rw [← hQ]; exact ⟨_, rfl, by omega, by omega, rfl, by have := rkv_c a0; omega, by omega⟩

set_option maxHeartbeats 8000000 in
theorem th_10 {E : zE} {d : Nat} {m0 : zM} {a0 : Int} (hd : 1 ≤ d) (hI0 : zInv m0) (ha0 : (-1) ≤ a0 ∧ a0 ≤ 127) : zC E d 10 [(0, a0)] m0 (fun v m' => ∃ r : Int, v = (0, r) ∧ (-1) ≤ r ∧ r ≤ 5 ∧ m0 = m' ∧ (r = nmv a0) ∧ (r = -1 ∨ 33 ≤ a0)) := by
  generalize hQ : (fun (v : zV) (m' : zM) => ∃ r : Int, v = (0, r) ∧ (-1) ≤ r ∧ r ≤ 5 ∧ m0 = m' ∧ (r = nmv a0) ∧ (r = -1 ∨ 33 ≤ a0)) = Q
  show zW E d 10 0 [(0, a0)] [] m0 Q
  refine zw_3 zr_10_0 rfl ?_
  by_cases h1 : a0 = 101
  · refine zw_112 (off := 63) (t := 64) zr_10_1 (by rw [h1]; rfl) rfl ?_
    refine zw_push zr_10_64 ?_
    refine zw_R zr_10_65 (by decide) zm_10 (v := (0, 2)) rfl ?_
    rw [← hQ]; exact ⟨_, rfl, by omega, by omega, rfl, by have := nmv_c a0; omega, by omega⟩
  by_cases h4 : a0 = 103
  · refine zw_112 (off := 69) (t := 70) zr_10_1 (by rw [h4]; rfl) rfl ?_
    refine zw_push zr_10_70 ?_
    refine zw_R zr_10_71 (by decide) zm_10 (v := (0, 5)) rfl ?_
    rw [← hQ]; exact ⟨_, rfl, by omega, by omega, rfl, by have := nmv_c a0; omega, by omega⟩
  by_cases h7 : a0 = 109
  · refine zw_112 (off := 65) (t := 66) zr_10_1 (by rw [h7]; rfl) rfl ?_
    refine zw_push zr_10_66 ?_
    refine zw_R zr_10_67 (by decide) zm_10 (v := (0, 3)) rfl ?_
    rw [← hQ]; exact ⟨_, rfl, by omega, by omega, rfl, by have := nmv_c a0; omega, by omega⟩
  by_cases h10 : a0 = 111
  · refine zw_112 (off := 61) (t := 62) zr_10_1 (by rw [h10]; rfl) rfl ?_
    refine zw_push zr_10_62 ?_
    refine zw_R zr_10_63 (by decide) zm_10 (v := (0, 1)) rfl ?_
    rw [← hQ]; exact ⟨_, rfl, by omega, by omega, rfl, by have := nmv_c a0; omega, by omega⟩
  by_cases h13 : a0 = 120
  · refine zw_112 (off := 59) (t := 60) zr_10_1 (by rw [h13]; rfl) rfl ?_
    refine zw_push zr_10_60 ?_
    refine zw_R zr_10_61 (by decide) zm_10 (v := (0, 0)) rfl ?_
    rw [← hQ]; exact ⟨_, rfl, by omega, by omega, rfl, by have := nmv_c a0; omega, by omega⟩
  by_cases h16 : a0 = 121
  · refine zw_112 (off := 67) (t := 68) zr_10_1 (by rw [h16]; rfl) rfl ?_
    refine zw_push zr_10_68 ?_
    refine zw_R zr_10_69 (by decide) zm_10 (v := (0, 4)) rfl ?_
    rw [← hQ]; exact ⟨_, rfl, by omega, by omega, rfl, by have := nmv_c a0; omega, by omega⟩
  refine zw_112 (off := 71) (t := 72) zr_10_1 (zlsw_df (by simp; omega)) rfl ?_
  refine zw_push zr_10_72 ?_
  refine zw_R zr_10_73 (by decide) zm_10 (v := (0, (-1))) rfl ?_
  rw [← hQ]; exact ⟨_, rfl, by omega, by omega, rfl, by have := nmv_c a0; omega, by omega⟩

abbrev W_11 : List (Nat × Nat) := [(45, 8), (48, 1000)]
set_option maxHeartbeats 8000000 in
theorem th_11 {E : zE} {d : Nat} {m0 : zM} {a0 : Int} {a1 : Int} {g0 : Int} {F47 : Nat → Int} {F48 : Nat → Int} (hd : 2 ≤ d) (hI0 : zInv m0) (hg0 : m0 45 8 = g0) (hG47 : m0 47 = F47) (hG48 : m0 48 = F48) (ha0 : 0 ≤ a0 ∧ a0 ≤ 50) (ha1 : 0 ≤ a1 ∧ a1 ≤ 50) (hp0 : a0 ≤ a1) : zC E d 11 [(2, 45), (0, a0), (0, a1)] m0 (fun v m' => v = (9, 0) ∧ zInv m' ∧ zFr W_11 m0 m' ∧ (zAq F47 a0 a1 g0 (m' 48) (m' 45 8) a0) ∧ (zFrm F48 (m' 48) g0) ∧ (g0 ≤ m' 45 8 ∧ m' 45 8 - g0 ≤ a1 - a0)) := by
  have hF0 : zFr W_11 m0 m0 := zFr.rfl
  have bg0 := ib_45_8 hI0
  rw [hg0] at bg0
  generalize hQ : (fun (v : zV) (m' : zM) => v = (9, 0) ∧ zInv m' ∧ zFr W_11 m0 m' ∧ (zAq F47 a0 a1 g0 (m' 48) (m' 45 8) a0) ∧ (zFrm F48 (m' 48) g0) ∧ (g0 ≤ m' 45 8 ∧ m' 45 8 - g0 ≤ a1 - a0)) = Q
  show zW E d 11 0 [(2, 45), (0, a0), (0, a1), (9, 0)] [] m0 Q
  refine zw_3 zr_11_0 rfl ?_
  refine zw_push zr_11_1 ?_
  refine zw_17 zr_11_2 (by omega) ?_
  refine zw_9 (L' := [(2, 45), (0, a0), (0, a1), (0, (a1 - 1))]) zr_11_3 (Nat.le_of_ble_eq_true rfl) rfl ?_
  have lp4_5 : ∀ (nlp4_5 : Nat) (i1 p3 : Int) (f4 : Nat → Int) (m2 : zM), zInv m2 → zFr W_11 m0 m2 → m2 45 8 = p3 → m2 47 = F47 → m2 48 = f4 → (-1) ≤ i1 → i1 ≤ 49 → 0 ≤ p3 → p3 ≤ 50 → (zAq F47 a0 a1 g0 f4 p3 (i1 + 1)) → (zFrm F48 f4 g0) → (g0 ≤ p3 ∧ p3 - g0 ≤ a1 - 1 - i1 ∧ a0 - 1 ≤ i1 ∧ i1 ≤ a1 - 1) → (i1 - (-1)).toNat < nlp4_5 → zW E (d) 11 4 [(2, 45), (0, a0), (0, a1), (0, i1)] [] m2 Q := by
    intro nlp4_5
    induction nlp4_5 with
    | zero =>
      intros
      exact absurd (by assumption : _ < 0) (Nat.not_lt_zero _)
    | succ nlp4_5 ihlp4_5 =>
      intro i1 p3 f4 m2 hIm2 hFm2 km2_45_8 fm2_47 fm2_48 li1 ui1 lp3 up3 hv0lp4_5 hv1lp4_5 hv2lp4_5 hmlp4_5
      refine zw_3 zr_11_4 rfl ?_
      refine zw_3 zr_11_5 rfl ?_
      refine zw_41_0 zr_11_6 ?_ ?_
      · intro h7
        refine zw_R zr_11_52 (by decide) zm_11 (v := (9, 0)) rfl ?_
        rw [← hQ]; exact ⟨rfl, hIm2, hFm2, by rw [fm2_48, km2_45_8]; have z := hv0lp4_5; rw [show i1 + 1 = a0 by omega] at z; exact z, by rw [fm2_48]; exact hv1lp4_5, by omega⟩
      · intro h11
        refine zw_7 zr_11_9 rfl ?_
        refine zw_46r (s := 47) zr_11_10 rfl rfl rfl rfl ?_
        refine zw_3 zr_11_13 rfl ?_
        refine zw_48 (c := 47) (len := 50) zr_11_14 rfl rfl (by omega) (by omega) ?_
        intro x12 ex12
        have bx12 := ib_47 hIm2 (k := (i1).toNat) (by omega)
        rw [← ex12] at bx12
        have qx12 : x12 = F47 (i1).toNat := by rw [← fm2_47]; exact ex12
        refine zw_push zr_11_15 ?_
        refine zw_41_4 zr_11_17 ?_ ?_
        · intro h13
          refine zw_7 zr_11_29 rfl ?_
          refine zw_46r (s := 47) zr_11_30 rfl rfl rfl rfl ?_
          refine zw_3 zr_11_33 rfl ?_
          refine zw_48k (c := 47) (len := 50) zr_11_34 rfl rfl (by omega) (by omega) rfl ex12.symm ?_
          refine zw_push zr_11_35 ?_
          refine zw_41_4 zr_11_37 ?_ ?_
          · intro h14
            refine zw_15 (c := (-1)) (L' := [(2, 45), (0, a0), (0, a1), (0, (i1 + (-1)))]) zr_11_46 rfl (by decide) (by omega) rfl ?_
            refine zw_42 zr_11_49 ?_
            exact zw_less (L := [(2, 45), (0, a0), (0, a1), (0, (i1 + (-1)))]) ⟨Or.inr rfl, Or.inr rfl, Or.inr rfl, Or.inr rfl, trivial⟩ (ihlp4_5 ((i1 + (-1))) (p3) (f4) m2 hIm2 hFm2  km2_45_8 fm2_47 fm2_48 (by omega) (by omega) (by omega) (by omega) (by first | exact zAq_n hv0lp4_5 qx12 (by omega) (by omega) | exact zAq_y hv0lp4_5 qx12 (by omega) rfl (by omega) | exact zAq_o (by omega)) (by first | exact hv1lp4_5 | exact zFrm_p hv1lp4_5 (by omega)) (by omega) (by omega))
          · intro h17
            refine zw_7 zr_11_40 rfl ?_
            refine zw_push zr_11_41 ?_
            refine zw_C zr_11_43 (Or.inl rfl) zm_8 rfl rfl ⟨Nat.le_of_ble_eq_true rfl, Nat.le_of_ble_eq_true rfl, Nat.le_of_ble_eq_true rfl, rfl, by decide⟩ (by omega) (P := (fun v m' => zW E (d) 11 46 [(2, 45), (0, a0), (0, a1), (0, i1)] (if v.1 = 9 then [] else v :: []) m' Q)) ?_ (fun _ _ h => h)
            generalize hQ1 : (fun v m' => zW E (d) 11 46 [(2, 45), (0, a0), (0, a1), (0, i1)] (if v.1 = 9 then [] else v :: []) m' Q) = Q1
            show zW E (d - 1) 8 0 [(2, 45), (0, (-126))] [] m2 Q1
            refine zw_7 zr_8_0 rfl ?_
            refine zw_46i zr_8_1 km2_45_8 rfl rfl rfl ?_
            refine zw_push zr_8_4 ?_
            refine zw_41_3 zr_8_6 ?_ ?_
            · intro h18
              refine zw_R zr_8_29 (by decide) zm_8 (v := (9, 0)) rfl ?_
              rw [← hQ1]
              show zW E (d) 11 46 [(2, 45), (0, a0), (0, a1), (0, i1)] [] m2 Q
              refine zw_15 (c := (-1)) (L' := [(2, 45), (0, a0), (0, a1), (0, (i1 + (-1)))]) zr_11_46 rfl (by decide) (by omega) rfl ?_
              refine zw_42 zr_11_49 ?_
              exact zw_less (L := [(2, 45), (0, a0), (0, a1), (0, (i1 + (-1)))]) ⟨Or.inr rfl, Or.inr rfl, Or.inr rfl, Or.inr rfl, trivial⟩ (ihlp4_5 ((i1 + (-1))) (p3) (f4) m2 hIm2 hFm2  km2_45_8 fm2_47 fm2_48 (by omega) (by omega) (by omega) (by omega) (by first | exact zAq_n hv0lp4_5 qx12 (by omega) (by omega) | exact zAq_y hv0lp4_5 qx12 (by omega) rfl (by omega) | exact zAq_o (by omega)) (by first | exact hv1lp4_5 | exact zFrm_p hv1lp4_5 (by omega)) (by omega) (by omega))
            · intro h21
              refine zw_7 zr_8_9 rfl ?_
              refine zw_46r (s := 48) zr_8_10 rfl rfl rfl rfl ?_
              refine zw_7 zr_8_13 rfl ?_
              refine zw_46i zr_8_14 km2_45_8 rfl rfl rfl ?_
              refine zw_3 zr_8_17 rfl ?_
              refine zw_49 (c := 48) (len := 50) zr_8_18 rfl rfl (by omega) (by omega) ?_
              intro m22 em22
              have hIm22 : zInv m22 := by rw [em22]; exact iu_48 hIm2 (by omega)
              have hFm22 : zFr W_11 m0 m22 := by rw [em22]; exact hFm2.any rfl
              have km22_45_8 : m22 45 8 = p3 := by rw [em22, zUp_ne (by omega)]; exact km2_45_8
              have fm22_47 : m22 47 = F47 := by rw [em22, zUp_fn (by decide)]; exact fm2_47
              have fm22_48 : m22 48 = zPt f4 ((p3).toNat) ((-126)) := by rw [em22]; exact (zUp_ff (m := m2)).trans (congrArg (fun q => zPt q ((p3).toNat) ((-126))) fm2_48)
              clear em22
              refine zw_7 zr_8_19 rfl ?_
              refine zw_43 zr_8_20 rfl ?_
              refine zw_46i zr_8_21 km22_45_8 rfl rfl rfl ?_
              refine zw_push zr_8_24 ?_
              refine zw_16 zr_8_25 (by omega) ?_
              refine zw_47 (c := 45) zr_8_26 rfl ⟨rfl, by decide, rfl⟩ ?_
              intro m23 em23
              have hIm23 : zInv m23 := by rw [em23]; exact hIm22.bd (r := 45) (k := 8) (lo := 0) (hi := 50) rfl (by omega) (by decide) (by decide) (by decide)
              have hFm23 : zFr W_11 m0 m23 := by rw [em23]; exact hFm22.up rfl
              have km23_45_8 : m23 45 8 = (p3 + 1) := by rw [em23]; exact zUp_eq _ _ _ _
              have fm23_47 : m23 47 = F47 := by rw [em23, zUp_fn (by decide)]; exact fm22_47
              have fm23_48 : m23 48 = zPt f4 ((p3).toNat) ((-126)) := by rw [em23, zUp_fn (by decide)]; exact fm22_48
              clear em23
              refine zw_R zr_8_29 (by decide) zm_8 (v := (9, 0)) rfl ?_
              rw [← hQ1]
              show zW E (d) 11 46 [(2, 45), (0, a0), (0, a1), (0, i1)] [] m23 Q
              refine zw_15 (c := (-1)) (L' := [(2, 45), (0, a0), (0, a1), (0, (i1 + (-1)))]) zr_11_46 rfl (by decide) (by omega) rfl ?_
              refine zw_42 zr_11_49 ?_
              exact zw_less (L := [(2, 45), (0, a0), (0, a1), (0, (i1 + (-1)))]) ⟨Or.inr rfl, Or.inr rfl, Or.inr rfl, Or.inr rfl, trivial⟩ (ihlp4_5 ((i1 + (-1))) ((p3 + 1)) (zPt f4 ((p3).toNat) ((-126))) m23 hIm23 hFm23  km23_45_8 fm23_47 fm23_48 (by omega) (by omega) (by omega) (by omega) (by first | exact zAq_n hv0lp4_5 qx12 (by omega) (by omega) | exact zAq_y hv0lp4_5 qx12 (by omega) rfl (by omega) | exact zAq_o (by omega)) (by first | exact hv1lp4_5 | exact zFrm_p hv1lp4_5 (by omega)) (by omega) (by omega))
        · intro h26
          refine zw_7 zr_11_20 rfl ?_
          refine zw_push zr_11_21 ?_
          refine zw_C zr_11_23 (Or.inl rfl) zm_8 rfl rfl ⟨Nat.le_of_ble_eq_true rfl, Nat.le_of_ble_eq_true rfl, Nat.le_of_ble_eq_true rfl, rfl, by decide⟩ (by omega) (P := (fun v m' => zW E (d) 11 26 [(2, 45), (0, a0), (0, a1), (0, i1)] (if v.1 = 9 then [] else v :: []) m' Q)) ?_ (fun _ _ h => h)
          generalize hQ1 : (fun v m' => zW E (d) 11 26 [(2, 45), (0, a0), (0, a1), (0, i1)] (if v.1 = 9 then [] else v :: []) m' Q) = Q1
          show zW E (d - 1) 8 0 [(2, 45), (0, (-33))] [] m2 Q1
          refine zw_7 zr_8_0 rfl ?_
          refine zw_46i zr_8_1 km2_45_8 rfl rfl rfl ?_
          refine zw_push zr_8_4 ?_
          refine zw_41_3 zr_8_6 ?_ ?_
          · intro h27
            refine zw_R zr_8_29 (by decide) zm_8 (v := (9, 0)) rfl ?_
            rw [← hQ1]
            show zW E (d) 11 26 [(2, 45), (0, a0), (0, a1), (0, i1)] [] m2 Q
            refine zw_42 zr_11_26 ?_
            refine zw_15 (c := (-1)) (L' := [(2, 45), (0, a0), (0, a1), (0, (i1 + (-1)))]) zr_11_46 rfl (by decide) (by omega) rfl ?_
            refine zw_42 zr_11_49 ?_
            exact zw_less (L := [(2, 45), (0, a0), (0, a1), (0, (i1 + (-1)))]) ⟨Or.inr rfl, Or.inr rfl, Or.inr rfl, Or.inr rfl, trivial⟩ (ihlp4_5 ((i1 + (-1))) (p3) (f4) m2 hIm2 hFm2  km2_45_8 fm2_47 fm2_48 (by omega) (by omega) (by omega) (by omega) (by first | exact zAq_n hv0lp4_5 qx12 (by omega) (by omega) | exact zAq_y hv0lp4_5 qx12 (by omega) rfl (by omega) | exact zAq_o (by omega)) (by first | exact hv1lp4_5 | exact zFrm_p hv1lp4_5 (by omega)) (by omega) (by omega))
          · intro h30
            refine zw_7 zr_8_9 rfl ?_
            refine zw_46r (s := 48) zr_8_10 rfl rfl rfl rfl ?_
            refine zw_7 zr_8_13 rfl ?_
            refine zw_46i zr_8_14 km2_45_8 rfl rfl rfl ?_
            refine zw_3 zr_8_17 rfl ?_
            refine zw_49 (c := 48) (len := 50) zr_8_18 rfl rfl (by omega) (by omega) ?_
            intro m31 em31
            have hIm31 : zInv m31 := by rw [em31]; exact iu_48 hIm2 (by omega)
            have hFm31 : zFr W_11 m0 m31 := by rw [em31]; exact hFm2.any rfl
            have km31_45_8 : m31 45 8 = p3 := by rw [em31, zUp_ne (by omega)]; exact km2_45_8
            have fm31_47 : m31 47 = F47 := by rw [em31, zUp_fn (by decide)]; exact fm2_47
            have fm31_48 : m31 48 = zPt f4 ((p3).toNat) ((-33)) := by rw [em31]; exact (zUp_ff (m := m2)).trans (congrArg (fun q => zPt q ((p3).toNat) ((-33))) fm2_48)
            clear em31
            refine zw_7 zr_8_19 rfl ?_
            refine zw_43 zr_8_20 rfl ?_
            refine zw_46i zr_8_21 km31_45_8 rfl rfl rfl ?_
            refine zw_push zr_8_24 ?_
            refine zw_16 zr_8_25 (by omega) ?_
            refine zw_47 (c := 45) zr_8_26 rfl ⟨rfl, by decide, rfl⟩ ?_
            intro m32 em32
            have hIm32 : zInv m32 := by rw [em32]; exact hIm31.bd (r := 45) (k := 8) (lo := 0) (hi := 50) rfl (by omega) (by decide) (by decide) (by decide)
            have hFm32 : zFr W_11 m0 m32 := by rw [em32]; exact hFm31.up rfl
            have km32_45_8 : m32 45 8 = (p3 + 1) := by rw [em32]; exact zUp_eq _ _ _ _
            have fm32_47 : m32 47 = F47 := by rw [em32, zUp_fn (by decide)]; exact fm31_47
            have fm32_48 : m32 48 = zPt f4 ((p3).toNat) ((-33)) := by rw [em32, zUp_fn (by decide)]; exact fm31_48
            clear em32
            refine zw_R zr_8_29 (by decide) zm_8 (v := (9, 0)) rfl ?_
            rw [← hQ1]
            show zW E (d) 11 26 [(2, 45), (0, a0), (0, a1), (0, i1)] [] m32 Q
            refine zw_42 zr_11_26 ?_
            refine zw_15 (c := (-1)) (L' := [(2, 45), (0, a0), (0, a1), (0, (i1 + (-1)))]) zr_11_46 rfl (by decide) (by omega) rfl ?_
            refine zw_42 zr_11_49 ?_
            exact zw_less (L := [(2, 45), (0, a0), (0, a1), (0, (i1 + (-1)))]) ⟨Or.inr rfl, Or.inr rfl, Or.inr rfl, Or.inr rfl, trivial⟩ (ihlp4_5 ((i1 + (-1))) ((p3 + 1)) (zPt f4 ((p3).toNat) ((-33))) m32 hIm32 hFm32  km32_45_8 fm32_47 fm32_48 (by omega) (by omega) (by omega) (by omega) (by first | exact zAq_n hv0lp4_5 qx12 (by omega) (by omega) | exact zAq_y hv0lp4_5 qx12 (by omega) rfl (by omega) | exact zAq_o (by omega)) (by first | exact hv1lp4_5 | exact zFrm_p hv1lp4_5 (by omega)) (by omega) (by omega))
  exact lp4_5 _ ((a1 - 1)) (g0) (F48) m0 hI0 hF0  hg0 hG47 hG48 (by omega) (by omega) (by omega) (by omega) (zAq_0 (by omega)) (zFrm_r) (by omega) (Nat.lt_succ_self _)

abbrev W_9 : List (Nat × Nat) := [(45, 1), (45, 6), (45, 8), (48, 1000)]
set_option maxHeartbeats 8000000 in
theorem th_9 {E : zE} {d : Nat} {m0 : zM} {g0 : Int} {g1 : Int} {g2 : Int} {g3 : Int} {g4 : Int} {F47 : Nat → Int} {F48 : Nat → Int} (hd : 2 ≤ d) (hI0 : zInv m0) (hg0 : m0 45 7 = g0) (hg1 : m0 45 6 = g1) (hg2 : m0 45 1 = g2) (hg3 : m0 45 8 = g3) (hg4 : m0 45 5 = g4) (hG47 : m0 47 = F47) (hG48 : m0 48 = F48) (hp0 : g2 = -1) (hp1 : 0 ≤ g3 ∧ g3 ≤ g1 ∧ g1 < g4) (hp2 : 48 ≤ chf F47 g4 g1.toNat ∧ chf F47 g4 g1.toNat ≤ 57) : zC E d 9 [(2, 45)] m0 (fun v m' => v = (9, 0) ∧ zInv m' ∧ zFr W_9 m0 m' ∧ (zCr (chf F47 g4) g0 g1 g3 (m' 48) (m' 45 6) (m' 45 8) (m' 45 1)) ∧ (zFrm F48 (m' 48) g3) ∧ (m' 45 1 ≠ -1 ∨ (g1 < m' 45 6 ∧ m' 45 8 - g3 ≤ m' 45 6 - g1)) ∧ (m' 45 6 ≤ g4 ∧ g3 ≤ m' 45 8)) := by
  have hF0 : zFr W_9 m0 m0 := zFr.rfl
  have bg0 := ib_45_7 hI0
  rw [hg0] at bg0
  have bg1 := ib_45_6 hI0
  rw [hg1] at bg1
  have bg2 := hI0.fi (c := 45) (k := 1) rfl
  rw [hg2] at bg2
  have bg3 := ib_45_8 hI0
  rw [hg3] at bg3
  have bg4 := ib_45_5 hI0
  rw [hg4] at bg4
  generalize hQ : (fun (v : zV) (m' : zM) => v = (9, 0) ∧ zInv m' ∧ zFr W_9 m0 m' ∧ (zCr (chf F47 g4) g0 g1 g3 (m' 48) (m' 45 6) (m' 45 8) (m' 45 1)) ∧ (zFrm F48 (m' 48) g3) ∧ (m' 45 1 ≠ -1 ∨ (g1 < m' 45 6 ∧ m' 45 8 - g3 ≤ m' 45 6 - g1)) ∧ (m' 45 6 ≤ g4 ∧ g3 ≤ m' 45 8)) = Q
  show zW E d 9 0 [(2, 45), (9, 0), (9, 0)] [] m0 Q
  refine zw_7 zr_9_0 rfl ?_
  refine zw_46i zr_9_1 hg1 rfl rfl rfl ?_
  refine zw_9 (L' := [(2, 45), (0, g1), (9, 0)]) zr_9_4 (Nat.le_of_ble_eq_true rfl) rfl ?_
  refine zw_push zr_9_5 ?_
  refine zw_9 (L' := [(2, 45), (0, g1), (0, 0)]) zr_9_6 (Nat.le_of_ble_eq_true rfl) rfl ?_
  have lp7_7 : ∀ (nlp7_7 : Nat) (i1 p3 p4 p5 : Int) (f6 : Nat → Int) (m2 : zM), zInv m2 → zFr W_9 m0 m2 → m2 45 7 = g0 → m2 45 5 = g4 → m2 45 6 = p3 → m2 45 1 = p4 → m2 45 8 = p5 → m2 47 = F47 → m2 48 = f6 → 0 ≤ i1 → i1 ≤ 999999 → 0 ≤ p3 → p3 ≤ 50 → (-2147483648) ≤ p4 → p4 ≤ 2147483647 → 0 ≤ p5 → p5 ≤ 50 → (zDg (chf F47 g4) g1 p3) → (i1 = dvl (chf F47 g4) g1.toNat (p3 - g1).toNat) → (g1 ≤ p3 ∧ p3 ≤ g1 + 6 ∧ p3 ≤ g4 ∧ p4 = g2 ∧ p5 = g3) → (zFrm F48 f6 g3) → (50 - p3).toNat < nlp7_7 → zW E (d) 9 7 [(2, 45), (0, g1), (0, i1)] [] m2 Q := by
    intro nlp7_7
    induction nlp7_7 with
    | zero =>
      intros
      exact absurd (by assumption : _ < 0) (Nat.not_lt_zero _)
    | succ nlp7_7 ihlp7_7 =>
      intro i1 p3 p4 p5 f6 m2 hIm2 hFm2 km2_45_7 km2_45_5 km2_45_6 km2_45_1 km2_45_8 fm2_47 fm2_48 li1 ui1 lp3 up3 lp4 up4 lp5 up5 hv0lp7_7 hv1lp7_7 hv2lp7_7 hv3lp7_7 hmlp7_7
      refine zw_7 zr_9_7 rfl ?_
      refine zw_46i zr_9_8 km2_45_6 rfl rfl rfl ?_
      refine zw_7 zr_9_11 rfl ?_
      refine zw_46i zr_9_12 km2_45_5 rfl rfl rfl ?_
      refine zw_41_3 zr_9_15 ?_ ?_
      · intro h9
        have hN : ¬ (48 ≤ chf F47 g4 (p3).toNat ∧ chf F47 g4 (p3).toNat ≤ 57) := by first | (rw [hC]; omega) | (rw [chf_ge (by omega)]; omega)
        have hE := zDg_lt hv0lp7_7 hp2 hN
        refine zw_7 zr_9_99 rfl ?_
        refine zw_3 zr_9_100 rfl ?_
        refine zw_C zr_9_101 (Or.inl rfl) zm_8 rfl rfl ⟨Nat.le_of_ble_eq_true rfl, Nat.le_of_ble_eq_true rfl, Nat.le_of_ble_eq_true rfl, rfl, by decide⟩ (by omega) (P := (fun v m' => zW E (d) 9 104 [(2, 45), (0, g1), (0, i1)] (if v.1 = 9 then [] else v :: []) m' Q)) ?_ (fun _ _ h => h)
        generalize hQ1 : (fun v m' => zW E (d) 9 104 [(2, 45), (0, g1), (0, i1)] (if v.1 = 9 then [] else v :: []) m' Q) = Q1
        show zW E (d - 1) 8 0 [(2, 45), (0, i1)] [] m2 Q1
        refine zw_7 zr_8_0 rfl ?_
        refine zw_46i zr_8_1 km2_45_8 rfl rfl rfl ?_
        refine zw_push zr_8_4 ?_
        refine zw_41_3 zr_8_6 ?_ ?_
        · intro h12
          refine zw_R zr_8_29 (by decide) zm_8 (v := (9, 0)) rfl ?_
          rw [← hQ1]
          show zW E (d) 9 104 [(2, 45), (0, g1), (0, i1)] [] m2 Q
          refine zw_R zr_9_104 (by decide) zm_9 (v := (9, 0)) rfl ?_
          rw [← hQ]; exact ⟨rfl, hIm2, hFm2, by rw [fm2_48, km2_45_6, km2_45_8, km2_45_1]; first | exact zCr_7 hv0lp7_7 hB (by omega) | exact zCr_d hv0lp7_7 hN hv1lp7_7 rfl (by omega) | (exfalso; omega), by rw [fm2_48]; first | exact hv3lp7_7 | exact zFrm_p hv3lp7_7 (by omega), by omega, by omega⟩
        · intro h17
          refine zw_7 zr_8_9 rfl ?_
          refine zw_46r (s := 48) zr_8_10 rfl rfl rfl rfl ?_
          refine zw_7 zr_8_13 rfl ?_
          refine zw_46i zr_8_14 km2_45_8 rfl rfl rfl ?_
          refine zw_3 zr_8_17 rfl ?_
          refine zw_49 (c := 48) (len := 50) zr_8_18 rfl rfl (by omega) (by omega) ?_
          intro m18 em18
          have hIm18 : zInv m18 := by rw [em18]; exact iu_48 hIm2 (by omega)
          have hFm18 : zFr W_9 m0 m18 := by rw [em18]; exact hFm2.any rfl
          have km18_45_7 : m18 45 7 = g0 := by rw [em18, zUp_ne (by omega)]; exact km2_45_7
          have km18_45_5 : m18 45 5 = g4 := by rw [em18, zUp_ne (by omega)]; exact km2_45_5
          have km18_45_6 : m18 45 6 = p3 := by rw [em18, zUp_ne (by omega)]; exact km2_45_6
          have km18_45_1 : m18 45 1 = p4 := by rw [em18, zUp_ne (by omega)]; exact km2_45_1
          have km18_45_8 : m18 45 8 = p5 := by rw [em18, zUp_ne (by omega)]; exact km2_45_8
          have fm18_47 : m18 47 = F47 := by rw [em18, zUp_fn (by decide)]; exact fm2_47
          have fm18_48 : m18 48 = zPt f6 ((p5).toNat) i1 := by rw [em18]; exact (zUp_ff (m := m2)).trans (congrArg (fun q => zPt q ((p5).toNat) i1) fm2_48)
          clear em18
          refine zw_7 zr_8_19 rfl ?_
          refine zw_43 zr_8_20 rfl ?_
          refine zw_46i zr_8_21 km18_45_8 rfl rfl rfl ?_
          refine zw_push zr_8_24 ?_
          refine zw_16 zr_8_25 (by omega) ?_
          refine zw_47 (c := 45) zr_8_26 rfl ⟨rfl, by decide, rfl⟩ ?_
          intro m19 em19
          have hIm19 : zInv m19 := by rw [em19]; exact hIm18.bd (r := 45) (k := 8) (lo := 0) (hi := 50) rfl (by omega) (by decide) (by decide) (by decide)
          have hFm19 : zFr W_9 m0 m19 := by rw [em19]; exact hFm18.up rfl
          have km19_45_7 : m19 45 7 = g0 := by rw [em19, zUp_ne (by omega)]; exact km18_45_7
          have km19_45_5 : m19 45 5 = g4 := by rw [em19, zUp_ne (by omega)]; exact km18_45_5
          have km19_45_6 : m19 45 6 = p3 := by rw [em19, zUp_ne (by omega)]; exact km18_45_6
          have km19_45_1 : m19 45 1 = p4 := by rw [em19, zUp_ne (by omega)]; exact km18_45_1
          have km19_45_8 : m19 45 8 = (p5 + 1) := by rw [em19]; exact zUp_eq _ _ _ _
          have fm19_47 : m19 47 = F47 := by rw [em19, zUp_fn (by decide)]; exact fm18_47
          have fm19_48 : m19 48 = zPt f6 ((p5).toNat) i1 := by rw [em19, zUp_fn (by decide)]; exact fm18_48
          clear em19
          refine zw_R zr_8_29 (by decide) zm_8 (v := (9, 0)) rfl ?_
          rw [← hQ1]
          show zW E (d) 9 104 [(2, 45), (0, g1), (0, i1)] [] m19 Q
          refine zw_R zr_9_104 (by decide) zm_9 (v := (9, 0)) rfl ?_
          rw [← hQ]; exact ⟨rfl, hIm19, hFm19, by rw [fm19_48, km19_45_6, km19_45_8, km19_45_1]; first | exact zCr_7 hv0lp7_7 hB (by omega) | exact zCr_d hv0lp7_7 hN hv1lp7_7 rfl (by omega) | (exfalso; omega), by rw [fm19_48]; first | exact hv3lp7_7 | exact zFrm_p hv3lp7_7 (by omega), by omega, by omega⟩
      · intro h24
        refine zw_7 zr_9_18 rfl ?_
        refine zw_46r (s := 47) zr_9_19 rfl rfl rfl rfl ?_
        refine zw_7 zr_9_22 rfl ?_
        refine zw_46i zr_9_23 km2_45_6 rfl rfl rfl ?_
        refine zw_48 (c := 47) (len := 50) zr_9_26 rfl rfl (by omega) (by omega) ?_
        intro x25 ex25
        have bx25 := ib_47 hIm2 (k := (p3).toNat) (by omega)
        rw [← ex25] at bx25
        have qx25 : x25 = F47 (p3).toNat := by rw [← fm2_47]; exact ex25
        refine zw_push zr_9_27 ?_
        have hC := chf_at (f := F47) (n := g4) (p := p3) qx25 (by omega)
        refine zw_41_0 zr_9_29 ?_ ?_
        · intro h27
          have hN : ¬ (48 ≤ chf F47 g4 (p3).toNat ∧ chf F47 g4 (p3).toNat ≤ 57) := by first | (rw [hC]; omega) | (rw [chf_ge (by omega)]; omega)
          have hE := zDg_lt hv0lp7_7 hp2 hN
          refine zw_7 zr_9_99 rfl ?_
          refine zw_3 zr_9_100 rfl ?_
          refine zw_C zr_9_101 (Or.inl rfl) zm_8 rfl rfl ⟨Nat.le_of_ble_eq_true rfl, Nat.le_of_ble_eq_true rfl, Nat.le_of_ble_eq_true rfl, rfl, by decide⟩ (by omega) (P := (fun v m' => zW E (d) 9 104 [(2, 45), (0, g1), (0, i1)] (if v.1 = 9 then [] else v :: []) m' Q)) ?_ (fun _ _ h => h)
          generalize hQ1 : (fun v m' => zW E (d) 9 104 [(2, 45), (0, g1), (0, i1)] (if v.1 = 9 then [] else v :: []) m' Q) = Q1
          show zW E (d - 1) 8 0 [(2, 45), (0, i1)] [] m2 Q1
          refine zw_7 zr_8_0 rfl ?_
          refine zw_46i zr_8_1 km2_45_8 rfl rfl rfl ?_
          refine zw_push zr_8_4 ?_
          refine zw_41_3 zr_8_6 ?_ ?_
          · intro h30
            refine zw_R zr_8_29 (by decide) zm_8 (v := (9, 0)) rfl ?_
            rw [← hQ1]
            show zW E (d) 9 104 [(2, 45), (0, g1), (0, i1)] [] m2 Q
            refine zw_R zr_9_104 (by decide) zm_9 (v := (9, 0)) rfl ?_
            rw [← hQ]; exact ⟨rfl, hIm2, hFm2, by rw [fm2_48, km2_45_6, km2_45_8, km2_45_1]; first | exact zCr_7 hv0lp7_7 hB (by omega) | exact zCr_d hv0lp7_7 hN hv1lp7_7 rfl (by omega) | (exfalso; omega), by rw [fm2_48]; first | exact hv3lp7_7 | exact zFrm_p hv3lp7_7 (by omega), by omega, by omega⟩
          · intro h35
            refine zw_7 zr_8_9 rfl ?_
            refine zw_46r (s := 48) zr_8_10 rfl rfl rfl rfl ?_
            refine zw_7 zr_8_13 rfl ?_
            refine zw_46i zr_8_14 km2_45_8 rfl rfl rfl ?_
            refine zw_3 zr_8_17 rfl ?_
            refine zw_49 (c := 48) (len := 50) zr_8_18 rfl rfl (by omega) (by omega) ?_
            intro m36 em36
            have hIm36 : zInv m36 := by rw [em36]; exact iu_48 hIm2 (by omega)
            have hFm36 : zFr W_9 m0 m36 := by rw [em36]; exact hFm2.any rfl
            have km36_45_7 : m36 45 7 = g0 := by rw [em36, zUp_ne (by omega)]; exact km2_45_7
            have km36_45_5 : m36 45 5 = g4 := by rw [em36, zUp_ne (by omega)]; exact km2_45_5
            have km36_45_6 : m36 45 6 = p3 := by rw [em36, zUp_ne (by omega)]; exact km2_45_6
            have km36_45_1 : m36 45 1 = p4 := by rw [em36, zUp_ne (by omega)]; exact km2_45_1
            have km36_45_8 : m36 45 8 = p5 := by rw [em36, zUp_ne (by omega)]; exact km2_45_8
            have fm36_47 : m36 47 = F47 := by rw [em36, zUp_fn (by decide)]; exact fm2_47
            have fm36_48 : m36 48 = zPt f6 ((p5).toNat) i1 := by rw [em36]; exact (zUp_ff (m := m2)).trans (congrArg (fun q => zPt q ((p5).toNat) i1) fm2_48)
            clear em36
            refine zw_7 zr_8_19 rfl ?_
            refine zw_43 zr_8_20 rfl ?_
            refine zw_46i zr_8_21 km36_45_8 rfl rfl rfl ?_
            refine zw_push zr_8_24 ?_
            refine zw_16 zr_8_25 (by omega) ?_
            refine zw_47 (c := 45) zr_8_26 rfl ⟨rfl, by decide, rfl⟩ ?_
            intro m37 em37
            have hIm37 : zInv m37 := by rw [em37]; exact hIm36.bd (r := 45) (k := 8) (lo := 0) (hi := 50) rfl (by omega) (by decide) (by decide) (by decide)
            have hFm37 : zFr W_9 m0 m37 := by rw [em37]; exact hFm36.up rfl
            have km37_45_7 : m37 45 7 = g0 := by rw [em37, zUp_ne (by omega)]; exact km36_45_7
            have km37_45_5 : m37 45 5 = g4 := by rw [em37, zUp_ne (by omega)]; exact km36_45_5
            have km37_45_6 : m37 45 6 = p3 := by rw [em37, zUp_ne (by omega)]; exact km36_45_6
            have km37_45_1 : m37 45 1 = p4 := by rw [em37, zUp_ne (by omega)]; exact km36_45_1
            have km37_45_8 : m37 45 8 = (p5 + 1) := by rw [em37]; exact zUp_eq _ _ _ _
            have fm37_47 : m37 47 = F47 := by rw [em37, zUp_fn (by decide)]; exact fm36_47
            have fm37_48 : m37 48 = zPt f6 ((p5).toNat) i1 := by rw [em37, zUp_fn (by decide)]; exact fm36_48
            clear em37
            refine zw_R zr_8_29 (by decide) zm_8 (v := (9, 0)) rfl ?_
            rw [← hQ1]
            show zW E (d) 9 104 [(2, 45), (0, g1), (0, i1)] [] m37 Q
            refine zw_R zr_9_104 (by decide) zm_9 (v := (9, 0)) rfl ?_
            rw [← hQ]; exact ⟨rfl, hIm37, hFm37, by rw [fm37_48, km37_45_6, km37_45_8, km37_45_1]; first | exact zCr_7 hv0lp7_7 hB (by omega) | exact zCr_d hv0lp7_7 hN hv1lp7_7 rfl (by omega) | (exfalso; omega), by rw [fm37_48]; first | exact hv3lp7_7 | exact zFrm_p hv3lp7_7 (by omega), by omega, by omega⟩
        · intro h42
          refine zw_7 zr_9_32 rfl ?_
          refine zw_46r (s := 47) zr_9_33 rfl rfl rfl rfl ?_
          refine zw_7 zr_9_36 rfl ?_
          refine zw_46i zr_9_37 km2_45_6 rfl rfl rfl ?_
          refine zw_48k (c := 47) (len := 50) zr_9_40 rfl rfl (by omega) (by omega) rfl ex25.symm ?_
          refine zw_push zr_9_41 ?_
          refine zw_41_2 zr_9_43 ?_ ?_
          · intro h43
            have hN : ¬ (48 ≤ chf F47 g4 (p3).toNat ∧ chf F47 g4 (p3).toNat ≤ 57) := by first | (rw [hC]; omega) | (rw [chf_ge (by omega)]; omega)
            have hE := zDg_lt hv0lp7_7 hp2 hN
            refine zw_7 zr_9_99 rfl ?_
            refine zw_3 zr_9_100 rfl ?_
            refine zw_C zr_9_101 (Or.inl rfl) zm_8 rfl rfl ⟨Nat.le_of_ble_eq_true rfl, Nat.le_of_ble_eq_true rfl, Nat.le_of_ble_eq_true rfl, rfl, by decide⟩ (by omega) (P := (fun v m' => zW E (d) 9 104 [(2, 45), (0, g1), (0, i1)] (if v.1 = 9 then [] else v :: []) m' Q)) ?_ (fun _ _ h => h)
            generalize hQ1 : (fun v m' => zW E (d) 9 104 [(2, 45), (0, g1), (0, i1)] (if v.1 = 9 then [] else v :: []) m' Q) = Q1
            show zW E (d - 1) 8 0 [(2, 45), (0, i1)] [] m2 Q1
            refine zw_7 zr_8_0 rfl ?_
            refine zw_46i zr_8_1 km2_45_8 rfl rfl rfl ?_
            refine zw_push zr_8_4 ?_
            refine zw_41_3 zr_8_6 ?_ ?_
            · intro h46
              refine zw_R zr_8_29 (by decide) zm_8 (v := (9, 0)) rfl ?_
              rw [← hQ1]
              show zW E (d) 9 104 [(2, 45), (0, g1), (0, i1)] [] m2 Q
              refine zw_R zr_9_104 (by decide) zm_9 (v := (9, 0)) rfl ?_
              rw [← hQ]; exact ⟨rfl, hIm2, hFm2, by rw [fm2_48, km2_45_6, km2_45_8, km2_45_1]; first | exact zCr_7 hv0lp7_7 hB (by omega) | exact zCr_d hv0lp7_7 hN hv1lp7_7 rfl (by omega) | (exfalso; omega), by rw [fm2_48]; first | exact hv3lp7_7 | exact zFrm_p hv3lp7_7 (by omega), by omega, by omega⟩
            · intro h51
              refine zw_7 zr_8_9 rfl ?_
              refine zw_46r (s := 48) zr_8_10 rfl rfl rfl rfl ?_
              refine zw_7 zr_8_13 rfl ?_
              refine zw_46i zr_8_14 km2_45_8 rfl rfl rfl ?_
              refine zw_3 zr_8_17 rfl ?_
              refine zw_49 (c := 48) (len := 50) zr_8_18 rfl rfl (by omega) (by omega) ?_
              intro m52 em52
              have hIm52 : zInv m52 := by rw [em52]; exact iu_48 hIm2 (by omega)
              have hFm52 : zFr W_9 m0 m52 := by rw [em52]; exact hFm2.any rfl
              have km52_45_7 : m52 45 7 = g0 := by rw [em52, zUp_ne (by omega)]; exact km2_45_7
              have km52_45_5 : m52 45 5 = g4 := by rw [em52, zUp_ne (by omega)]; exact km2_45_5
              have km52_45_6 : m52 45 6 = p3 := by rw [em52, zUp_ne (by omega)]; exact km2_45_6
              have km52_45_1 : m52 45 1 = p4 := by rw [em52, zUp_ne (by omega)]; exact km2_45_1
              have km52_45_8 : m52 45 8 = p5 := by rw [em52, zUp_ne (by omega)]; exact km2_45_8
              have fm52_47 : m52 47 = F47 := by rw [em52, zUp_fn (by decide)]; exact fm2_47
              have fm52_48 : m52 48 = zPt f6 ((p5).toNat) i1 := by rw [em52]; exact (zUp_ff (m := m2)).trans (congrArg (fun q => zPt q ((p5).toNat) i1) fm2_48)
              clear em52
              refine zw_7 zr_8_19 rfl ?_
              refine zw_43 zr_8_20 rfl ?_
              refine zw_46i zr_8_21 km52_45_8 rfl rfl rfl ?_
              refine zw_push zr_8_24 ?_
              refine zw_16 zr_8_25 (by omega) ?_
              refine zw_47 (c := 45) zr_8_26 rfl ⟨rfl, by decide, rfl⟩ ?_
              intro m53 em53
              have hIm53 : zInv m53 := by rw [em53]; exact hIm52.bd (r := 45) (k := 8) (lo := 0) (hi := 50) rfl (by omega) (by decide) (by decide) (by decide)
              have hFm53 : zFr W_9 m0 m53 := by rw [em53]; exact hFm52.up rfl
              have km53_45_7 : m53 45 7 = g0 := by rw [em53, zUp_ne (by omega)]; exact km52_45_7
              have km53_45_5 : m53 45 5 = g4 := by rw [em53, zUp_ne (by omega)]; exact km52_45_5
              have km53_45_6 : m53 45 6 = p3 := by rw [em53, zUp_ne (by omega)]; exact km52_45_6
              have km53_45_1 : m53 45 1 = p4 := by rw [em53, zUp_ne (by omega)]; exact km52_45_1
              have km53_45_8 : m53 45 8 = (p5 + 1) := by rw [em53]; exact zUp_eq _ _ _ _
              have fm53_47 : m53 47 = F47 := by rw [em53, zUp_fn (by decide)]; exact fm52_47
              have fm53_48 : m53 48 = zPt f6 ((p5).toNat) i1 := by rw [em53, zUp_fn (by decide)]; exact fm52_48
              clear em53
              refine zw_R zr_8_29 (by decide) zm_8 (v := (9, 0)) rfl ?_
              rw [← hQ1]
              show zW E (d) 9 104 [(2, 45), (0, g1), (0, i1)] [] m53 Q
              refine zw_R zr_9_104 (by decide) zm_9 (v := (9, 0)) rfl ?_
              rw [← hQ]; exact ⟨rfl, hIm53, hFm53, by rw [fm53_48, km53_45_6, km53_45_8, km53_45_1]; first | exact zCr_7 hv0lp7_7 hB (by omega) | exact zCr_d hv0lp7_7 hN hv1lp7_7 rfl (by omega) | (exfalso; omega), by rw [fm53_48]; first | exact hv3lp7_7 | exact zFrm_p hv3lp7_7 (by omega), by omega, by omega⟩
          · intro h58
            refine zw_7 zr_9_46 rfl ?_
            refine zw_46i zr_9_47 km2_45_6 rfl rfl rfl ?_
            refine zw_3 zr_9_50 rfl ?_
            refine zw_17 zr_9_51 (by omega) ?_
            refine zw_push zr_9_52 ?_
            refine zw_41_0 zr_9_54 ?_ ?_
            · intro h59
              have hV := zDg_v hv0lp7_7 (by omega)
              refine zw_3 zr_9_68 rfl ?_
              refine zw_push zr_9_69 ?_
              refine zw_18 zr_9_71 (by omega) ?_
              refine zw_7 zr_9_72 rfl ?_
              refine zw_46r (s := 47) zr_9_73 rfl rfl rfl rfl ?_
              refine zw_7 zr_9_76 rfl ?_
              refine zw_46i zr_9_77 km2_45_6 rfl rfl rfl ?_
              refine zw_48k (c := 47) (len := 50) zr_9_80 rfl rfl (by omega) (by omega) rfl ex25.symm ?_
              refine zw_16 zr_9_81 (by omega) ?_
              refine zw_push zr_9_82 ?_
              refine zw_17 zr_9_84 (by omega) ?_
              refine zw_9 (L' := [(2, 45), (0, g1), (0, (((i1 * 10) + x25) - 48))]) zr_9_85 (Nat.le_of_ble_eq_true rfl) rfl ?_
              refine zw_7 zr_9_86 rfl ?_
              refine zw_43 zr_9_87 rfl ?_
              refine zw_46i zr_9_88 km2_45_6 rfl rfl rfl ?_
              refine zw_push zr_9_91 ?_
              refine zw_16 zr_9_92 (by omega) ?_
              refine zw_47 (c := 45) zr_9_93 rfl ⟨rfl, by decide, rfl⟩ ?_
              intro m61 em61
              have hIm61 : zInv m61 := by rw [em61]; exact hIm2.bd (r := 45) (k := 6) (lo := 0) (hi := 50) rfl (by omega) (by decide) (by decide) (by decide)
              have hFm61 : zFr W_9 m0 m61 := by rw [em61]; exact hFm2.up rfl
              have km61_45_7 : m61 45 7 = g0 := by rw [em61, zUp_ne (by omega)]; exact km2_45_7
              have km61_45_5 : m61 45 5 = g4 := by rw [em61, zUp_ne (by omega)]; exact km2_45_5
              have km61_45_1 : m61 45 1 = p4 := by rw [em61, zUp_ne (by omega)]; exact km2_45_1
              have km61_45_8 : m61 45 8 = p5 := by rw [em61, zUp_ne (by omega)]; exact km2_45_8
              have km61_45_6 : m61 45 6 = (p3 + 1) := by rw [em61]; exact zUp_eq _ _ _ _
              have fm61_47 : m61 47 = F47 := by rw [em61, zUp_fn (by decide)]; exact fm2_47
              have fm61_48 : m61 48 = f6 := by rw [em61, zUp_fn (by decide)]; exact fm2_48
              clear em61
              refine zw_42 zr_9_96 ?_
              exact zw_less (L := [(2, 45), (0, g1), (0, (((i1 * 10) + x25) - 48))]) ⟨Or.inr rfl, Or.inr rfl, Or.inr rfl, trivial⟩ (ihlp7_7 ((((i1 * 10) + x25) - 48)) ((p3 + 1)) (p4) (p5) (f6) m61 hIm61 hFm61  km61_45_7 km61_45_5 km61_45_6 km61_45_1 km61_45_8 fm61_47 fm61_48 (by omega) (by omega) (by omega) (by omega) (by omega) (by omega) (by omega) (by omega) (zDg_s hv0lp7_7 hC (by omega) (by omega)) (dvl_n hv1lp7_7 hC (by omega)) (by omega) (hv3lp7_7) (by omega))
            · intro h65
              have hB : 48 ≤ chf F47 g4 (p3).toNat ∧ chf F47 g4 (p3).toNat ≤ 57 := by rw [hC]; omega
              refine zw_7 zr_9_57 rfl ?_
              refine zw_3 zr_9_58 rfl ?_
              refine zw_47 (c := 45) zr_9_59 rfl ⟨rfl, by decide, rfl⟩ ?_
              intro m67 em67
              have hIm67 : zInv m67 := by rw [em67]; exact hIm2.bd (r := 45) (k := 6) (lo := 0) (hi := 50) rfl (by omega) (by decide) (by decide) (by decide)
              have hFm67 : zFr W_9 m0 m67 := by rw [em67]; exact hFm2.up rfl
              have km67_45_7 : m67 45 7 = g0 := by rw [em67, zUp_ne (by omega)]; exact km2_45_7
              have km67_45_5 : m67 45 5 = g4 := by rw [em67, zUp_ne (by omega)]; exact km2_45_5
              have km67_45_1 : m67 45 1 = p4 := by rw [em67, zUp_ne (by omega)]; exact km2_45_1
              have km67_45_8 : m67 45 8 = p5 := by rw [em67, zUp_ne (by omega)]; exact km2_45_8
              have km67_45_6 : m67 45 6 = g1 := by rw [em67]; exact zUp_eq _ _ _ _
              have fm67_47 : m67 47 = F47 := by rw [em67, zUp_fn (by decide)]; exact fm2_47
              have fm67_48 : m67 48 = f6 := by rw [em67, zUp_fn (by decide)]; exact fm2_48
              clear em67
              refine zw_7 zr_9_62 rfl ?_
              refine zw_push zr_9_63 ?_
              refine zw_C zr_9_64 (Or.inl rfl) zm_5 rfl rfl ⟨Nat.le_of_ble_eq_true rfl, Nat.le_of_ble_eq_true rfl, Nat.le_of_ble_eq_true rfl, rfl, by decide⟩ (by omega) (P := (fun v m' => zW E (d) 9 67 [(2, 45), (0, g1), (0, i1)] (if v.1 = 9 then [] else v :: []) m' Q)) ?_ (fun _ _ h => h)
              generalize hQ1 : (fun v m' => zW E (d) 9 67 [(2, 45), (0, g1), (0, i1)] (if v.1 = 9 then [] else v :: []) m' Q) = Q1
              show zW E (d - 1) 5 0 [(2, 45), (0, 2)] [] m67 Q1
              refine zw_7 zr_5_0 rfl ?_
              refine zw_46i zr_5_1 km67_45_1 rfl rfl rfl ?_
              refine zw_push zr_5_4 ?_
              refine zw_41_4 zr_5_5 ?_ ?_
              · intro h68
                refine zw_R zr_5_21 (by decide) zm_5 (v := (9, 0)) rfl ?_
                rw [← hQ1]
                show zW E (d) 9 67 [(2, 45), (0, g1), (0, i1)] [] m67 Q
                refine zw_R zr_9_67 (by decide) zm_9 (v := (9, 0)) rfl ?_
                rw [← hQ]; exact ⟨rfl, hIm67, hFm67, by rw [fm67_48, km67_45_6, km67_45_8, km67_45_1]; first | exact zCr_7 hv0lp7_7 hB (by omega) | exact zCr_d hv0lp7_7 hN hv1lp7_7 rfl (by omega) | (exfalso; omega), by rw [fm67_48]; first | exact hv3lp7_7 | exact zFrm_p hv3lp7_7 (by omega), by omega, by omega⟩
              · intro h73
                refine zw_7 zr_5_8 rfl ?_
                refine zw_7 zr_5_9 rfl ?_
                refine zw_46i zr_5_10 km67_45_6 rfl rfl rfl ?_
                refine zw_push zr_5_13 ?_
                refine zw_18 zr_5_15 (by omega) ?_
                refine zw_3 zr_5_16 rfl ?_
                refine zw_16 zr_5_17 (by omega) ?_
                refine zw_47 (c := 45) zr_5_18 rfl ⟨rfl, by decide, rfl⟩ ?_
                intro m74 em74
                have hIm74 : zInv m74 := by rw [em74]; exact hIm67.any (by omega) rfl (by decide) (by decide)
                have hFm74 : zFr W_9 m0 m74 := by rw [em74]; exact hFm67.up rfl
                have km74_45_7 : m74 45 7 = g0 := by rw [em74, zUp_ne (by omega)]; exact km67_45_7
                have km74_45_5 : m74 45 5 = g4 := by rw [em74, zUp_ne (by omega)]; exact km67_45_5
                have km74_45_8 : m74 45 8 = p5 := by rw [em74, zUp_ne (by omega)]; exact km67_45_8
                have km74_45_6 : m74 45 6 = g1 := by rw [em74, zUp_ne (by omega)]; exact km67_45_6
                have km74_45_1 : m74 45 1 = ((g1 * 10) + 2) := by rw [em74]; exact zUp_eq _ _ _ _
                have fm74_47 : m74 47 = F47 := by rw [em74, zUp_fn (by decide)]; exact fm67_47
                have fm74_48 : m74 48 = f6 := by rw [em74, zUp_fn (by decide)]; exact fm67_48
                clear em74
                refine zw_R zr_5_21 (by decide) zm_5 (v := (9, 0)) rfl ?_
                rw [← hQ1]
                show zW E (d) 9 67 [(2, 45), (0, g1), (0, i1)] [] m74 Q
                refine zw_R zr_9_67 (by decide) zm_9 (v := (9, 0)) rfl ?_
                rw [← hQ]; exact ⟨rfl, hIm74, hFm74, by rw [fm74_48, km74_45_6, km74_45_8, km74_45_1]; first | exact zCr_7 hv0lp7_7 hB (by omega) | exact zCr_d hv0lp7_7 hN hv1lp7_7 rfl (by omega) | (exfalso; omega), by rw [fm74_48]; first | exact hv3lp7_7 | exact zFrm_p hv3lp7_7 (by omega), by omega, by omega⟩
  exact lp7_7 _ (0) (g1) (g2) (g3) (F48) m0 hI0 hF0  hg0 hg4 hg1 hg2 hg3 hG47 hG48 (by omega) (by omega) (by omega) (by omega) (by omega) (by omega) (by omega) (by omega) (zDg_0) (by rw [Int.sub_self]; rfl) (by omega) (zFrm_r) (Nat.lt_succ_self _)
