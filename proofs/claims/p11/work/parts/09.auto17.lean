abbrev W_131 : List (Nat × Nat) := [(42, 0), (42, 1)]
set_option maxHeartbeats 8000000 in
theorem th_131 {E : zE} {d : Nat} {m0 : zM} {a0 : Int} {F3 : Nat → Int} {F4 : Nat → Int} {F13 : Nat → Int} (hd : 3 ≤ d) (hI0 : zInv m0) (hG3 : m0 3 = F3) (hG4 : m0 4 = F4) (hG13 : m0 13 = F13) (ha0 : 0 ≤ a0 ∧ a0 ≤ 9) (hp0 : F4 (a0 * 4 + 0).toNat + F4 (a0 * 4 + (0 + 1)).toNat + F4 (a0 * 4 + ((0 + 1) + 1)).toNat + F4 (a0 * 4 + (((0 + 1) + 1) + 1)).toNat ≠ 0) : zC E d 131 [(2, 0), (0, a0)] m0 (fun v m' => v = (9, 0) ∧ zInv m' ∧ zFr W_131 m0 m' ∧ (zTl (prs (fun c => F3 (a0.toNat * 4 + c)) (fun c => F4 (a0.toNat * 4 + c)) F13 4).1 ((prs (fun c => F3 (a0.toNat * 4 + c)) (fun c => F4 (a0.toNat * 4 + c)) F13 4).2.1 * (prs (fun c => F3 (a0.toNat * 4 + c)) (fun c => F4 (a0.toNat * 4 + c)) F13 4).2.2) (m' 42 0) (m' 42 1))) := by
  have hF0 : zFr W_131 m0 m0 := zFr.rfl
  generalize hQ : (fun (v : zV) (m' : zM) => v = (9, 0) ∧ zInv m' ∧ zFr W_131 m0 m' ∧ (zTl (prs (fun c => F3 (a0.toNat * 4 + c)) (fun c => F4 (a0.toNat * 4 + c)) F13 4).1 ((prs (fun c => F3 (a0.toNat * 4 + c)) (fun c => F4 (a0.toNat * 4 + c)) F13 4).2.1 * (prs (fun c => F3 (a0.toNat * 4 + c)) (fun c => F4 (a0.toNat * 4 + c)) F13 4).2.2) (m' 42 0) (m' 42 1))) = Q
  show zW E d 131 0 [(2, 0), (0, a0), (9, 0), (9, 0), (9, 0), (9, 0), (9, 0), (9, 0), (9, 0), (9, 0)] [] m0 Q
  refine zw_push zr_131_0 ?_
  refine zw_13 (L' := [(2, 0), (0, a0), (1, 0), (9, 0), (9, 0), (9, 0), (9, 0), (9, 0), (9, 0), (9, 0)]) zr_131_1 (Nat.le_of_ble_eq_true rfl) rfl ?_
  refine zw_push zr_131_2 ?_
  refine zw_14 (L' := [(2, 0), (0, a0), (1, 0), (9, 0), (1, 1), (9, 0), (9, 0), (9, 0), (9, 0), (9, 0)]) zr_131_3 (Nat.le_of_ble_eq_true rfl) rfl ?_
  refine zw_push zr_131_5 ?_
  refine zw_10 (L' := [(2, 0), (0, a0), (1, 0), (9, 0), (1, 1), (9, 0), (0, 0), (9, 0), (9, 0), (9, 0)]) zr_131_6 (Nat.le_of_ble_eq_true rfl) rfl ?_
  refine zw_push zr_131_8 ?_
  refine zw_10 (L' := [(2, 0), (0, a0), (1, 0), (9, 0), (1, 1), (9, 0), (0, 0), (0, 0), (9, 0), (9, 0)]) zr_131_9 (Nat.le_of_ble_eq_true rfl) rfl ?_
  have hP0 : ((0 : Int), (1 : Int), (0 : Int)) = prs (fun c => F3 (a0.toNat * 4 + c)) (fun c => F4 (a0.toNat * 4 + c)) F13 0 := rfl
  refine zw_4 zr_131_11 rfl ?_
  refine zw_push zr_131_13 ?_
  refine zw_41_3 zr_131_14 ?_ ?_
  · intro h1; omega
  · intro h2
    refine zw_7 zr_131_17 rfl ?_
    refine zw_46r (s := 1) zr_131_18 rfl rfl rfl rfl ?_
    refine zw_46r (s := 3) zr_131_21 rfl rfl rfl rfl ?_
    refine zw_3 zr_131_24 rfl ?_
    refine zw_push zr_131_25 ?_
    refine zw_18 zr_131_26 (by omega) ?_
    refine zw_4 zr_131_27 rfl ?_
    refine zw_16 zr_131_29 (by omega) ?_
    refine zw_48 (c := 3) (len := 40) zr_131_30 rfl rfl (by omega) (by omega) ?_
    intro x3 ex3
    have bx3 := ib_3 hI0 (k := (((a0 * 4) + 0)).toNat) (by omega)
    rw [← ex3] at bx3
    have qx3 : x3 = F3 (((a0 * 4) + 0)).toNat := by rw [← hG3]; exact ex3
    clear ex3
    skip
    refine zw_10 (L' := [(2, 0), (0, a0), (1, 0), (9, 0), (1, 1), (9, 0), (0, 0), (0, 0), (0, x3), (9, 0)]) zr_131_31 (Nat.le_of_ble_eq_true rfl) rfl ?_
    refine zw_7 zr_131_33 rfl ?_
    refine zw_46r (s := 1) zr_131_34 rfl rfl rfl rfl ?_
    refine zw_46r (s := 4) zr_131_37 rfl rfl rfl rfl ?_
    refine zw_3 zr_131_40 rfl ?_
    refine zw_push zr_131_41 ?_
    refine zw_18 zr_131_42 (by omega) ?_
    refine zw_4 zr_131_43 rfl ?_
    refine zw_16 zr_131_45 (by omega) ?_
    refine zw_48 (c := 4) (len := 40) zr_131_46 rfl rfl (by omega) (by omega) ?_
    intro x4 ex4
    have bx4 := ib_4 hI0 (k := (((a0 * 4) + 0)).toNat) (by omega)
    rw [← ex4] at bx4
    have qx4 : x4 = F4 (((a0 * 4) + 0)).toNat := by rw [← hG4]; exact ex4
    clear ex4
    skip
    skip
    refine zw_10 (L' := [(2, 0), (0, a0), (1, 0), (9, 0), (1, 1), (9, 0), (0, 0), (0, 0), (0, x3), (0, x4)]) zr_131_47 (Nat.le_of_ble_eq_true rfl) rfl ?_
    refine zw_4 zr_131_49 rfl ?_
    refine zw_40_5 zr_131_51 ?_ ?_
    · intro h5
      have hP1 := prs_n (R := (fun c => F3 (a0.toNat * 4 + c))) (A := (fun c => F4 (a0.toNat * 4 + c))) (W := F13) (k := 1) hP0 rfl (qx4.trans (congrArg F4 (by omega))) (by omega)
      refine zw_15 (c := 1) (L' := [(2, 0), (0, a0), (1, 0), (9, 0), (1, 1), (9, 0), (0, 0), (0, (0 + 1)), (0, x3), (0, x4)]) zr_131_102 rfl (by decide) (by omega) rfl ?_
      refine zw_42 zr_131_105 ?_
      skip
      refine zw_4 zr_131_11 rfl ?_
      refine zw_push zr_131_13 ?_
      refine zw_41_3 zr_131_14 ?_ ?_
      · intro h6; omega
      · intro h7
        refine zw_7 zr_131_17 rfl ?_
        refine zw_46r (s := 1) zr_131_18 rfl rfl rfl rfl ?_
        refine zw_46r (s := 3) zr_131_21 rfl rfl rfl rfl ?_
        refine zw_3 zr_131_24 rfl ?_
        refine zw_push zr_131_25 ?_
        refine zw_18 zr_131_26 (by omega) ?_
        refine zw_4 zr_131_27 rfl ?_
        refine zw_16 zr_131_29 (by omega) ?_
        refine zw_48 (c := 3) (len := 40) zr_131_30 rfl rfl (by omega) (by omega) ?_
        intro x8 ex8
        have bx8 := ib_3 hI0 (k := (((a0 * 4) + (0 + 1))).toNat) (by omega)
        rw [← ex8] at bx8
        have qx8 : x8 = F3 (((a0 * 4) + (0 + 1))).toNat := by rw [← hG3]; exact ex8
        clear ex8
        skip
        refine zw_10 (L' := [(2, 0), (0, a0), (1, 0), (9, 0), (1, 1), (9, 0), (0, 0), (0, (0 + 1)), (0, x8), (0, x4)]) zr_131_31 (Nat.le_of_ble_eq_true rfl) rfl ?_
        refine zw_7 zr_131_33 rfl ?_
        refine zw_46r (s := 1) zr_131_34 rfl rfl rfl rfl ?_
        refine zw_46r (s := 4) zr_131_37 rfl rfl rfl rfl ?_
        refine zw_3 zr_131_40 rfl ?_
        refine zw_push zr_131_41 ?_
        refine zw_18 zr_131_42 (by omega) ?_
        refine zw_4 zr_131_43 rfl ?_
        refine zw_16 zr_131_45 (by omega) ?_
        refine zw_48 (c := 4) (len := 40) zr_131_46 rfl rfl (by omega) (by omega) ?_
        intro x9 ex9
        have bx9 := ib_4 hI0 (k := (((a0 * 4) + (0 + 1))).toNat) (by omega)
        rw [← ex9] at bx9
        have qx9 : x9 = F4 (((a0 * 4) + (0 + 1))).toNat := by rw [← hG4]; exact ex9
        clear ex9
        skip
        skip
        refine zw_10 (L' := [(2, 0), (0, a0), (1, 0), (9, 0), (1, 1), (9, 0), (0, 0), (0, (0 + 1)), (0, x8), (0, x9)]) zr_131_47 (Nat.le_of_ble_eq_true rfl) rfl ?_
        refine zw_4 zr_131_49 rfl ?_
        refine zw_40_5 zr_131_51 ?_ ?_
        · intro h10
          have hP2 := prs_n (R := (fun c => F3 (a0.toNat * 4 + c))) (A := (fun c => F4 (a0.toNat * 4 + c))) (W := F13) (k := 2) hP1 rfl (qx9.trans (congrArg F4 (by omega))) (by omega)
          refine zw_15 (c := 1) (L' := [(2, 0), (0, a0), (1, 0), (9, 0), (1, 1), (9, 0), (0, 0), (0, ((0 + 1) + 1)), (0, x8), (0, x9)]) zr_131_102 rfl (by decide) (by omega) rfl ?_
          refine zw_42 zr_131_105 ?_
          skip
          refine zw_4 zr_131_11 rfl ?_
          refine zw_push zr_131_13 ?_
          refine zw_41_3 zr_131_14 ?_ ?_
          · intro h11; omega
          · intro h12
            refine zw_7 zr_131_17 rfl ?_
            refine zw_46r (s := 1) zr_131_18 rfl rfl rfl rfl ?_
            refine zw_46r (s := 3) zr_131_21 rfl rfl rfl rfl ?_
            refine zw_3 zr_131_24 rfl ?_
            refine zw_push zr_131_25 ?_
            refine zw_18 zr_131_26 (by omega) ?_
            refine zw_4 zr_131_27 rfl ?_
            refine zw_16 zr_131_29 (by omega) ?_
            refine zw_48 (c := 3) (len := 40) zr_131_30 rfl rfl (by omega) (by omega) ?_
            intro x13 ex13
            have bx13 := ib_3 hI0 (k := (((a0 * 4) + ((0 + 1) + 1))).toNat) (by omega)
            rw [← ex13] at bx13
            have qx13 : x13 = F3 (((a0 * 4) + ((0 + 1) + 1))).toNat := by rw [← hG3]; exact ex13
            clear ex13
            skip
            refine zw_10 (L' := [(2, 0), (0, a0), (1, 0), (9, 0), (1, 1), (9, 0), (0, 0), (0, ((0 + 1) + 1)), (0, x13), (0, x9)]) zr_131_31 (Nat.le_of_ble_eq_true rfl) rfl ?_
            refine zw_7 zr_131_33 rfl ?_
            refine zw_46r (s := 1) zr_131_34 rfl rfl rfl rfl ?_
            refine zw_46r (s := 4) zr_131_37 rfl rfl rfl rfl ?_
            refine zw_3 zr_131_40 rfl ?_
            refine zw_push zr_131_41 ?_
            refine zw_18 zr_131_42 (by omega) ?_
            refine zw_4 zr_131_43 rfl ?_
            refine zw_16 zr_131_45 (by omega) ?_
            refine zw_48 (c := 4) (len := 40) zr_131_46 rfl rfl (by omega) (by omega) ?_
            intro x14 ex14
            have bx14 := ib_4 hI0 (k := (((a0 * 4) + ((0 + 1) + 1))).toNat) (by omega)
            rw [← ex14] at bx14
            have qx14 : x14 = F4 (((a0 * 4) + ((0 + 1) + 1))).toNat := by rw [← hG4]; exact ex14
            clear ex14
            skip
            skip
            refine zw_10 (L' := [(2, 0), (0, a0), (1, 0), (9, 0), (1, 1), (9, 0), (0, 0), (0, ((0 + 1) + 1)), (0, x13), (0, x14)]) zr_131_47 (Nat.le_of_ble_eq_true rfl) rfl ?_
            refine zw_4 zr_131_49 rfl ?_
            refine zw_40_5 zr_131_51 ?_ ?_
            · intro h15
              have hP3 := prs_n (R := (fun c => F3 (a0.toNat * 4 + c))) (A := (fun c => F4 (a0.toNat * 4 + c))) (W := F13) (k := 3) hP2 rfl (qx14.trans (congrArg F4 (by omega))) (by omega)
              refine zw_15 (c := 1) (L' := [(2, 0), (0, a0), (1, 0), (9, 0), (1, 1), (9, 0), (0, 0), (0, (((0 + 1) + 1) + 1)), (0, x13), (0, x14)]) zr_131_102 rfl (by decide) (by omega) rfl ?_
              refine zw_42 zr_131_105 ?_
              skip
              refine zw_4 zr_131_11 rfl ?_
              refine zw_push zr_131_13 ?_
              refine zw_41_3 zr_131_14 ?_ ?_
              · intro h16; omega
              · intro h17
                refine zw_7 zr_131_17 rfl ?_
                refine zw_46r (s := 1) zr_131_18 rfl rfl rfl rfl ?_
                refine zw_46r (s := 3) zr_131_21 rfl rfl rfl rfl ?_
                refine zw_3 zr_131_24 rfl ?_
                refine zw_push zr_131_25 ?_
                refine zw_18 zr_131_26 (by omega) ?_
                refine zw_4 zr_131_27 rfl ?_
                refine zw_16 zr_131_29 (by omega) ?_
                refine zw_48 (c := 3) (len := 40) zr_131_30 rfl rfl (by omega) (by omega) ?_
                intro x18 ex18
                have bx18 := ib_3 hI0 (k := (((a0 * 4) + (((0 + 1) + 1) + 1))).toNat) (by omega)
                rw [← ex18] at bx18
                have qx18 : x18 = F3 (((a0 * 4) + (((0 + 1) + 1) + 1))).toNat := by rw [← hG3]; exact ex18
                clear ex18
                skip
                refine zw_10 (L' := [(2, 0), (0, a0), (1, 0), (9, 0), (1, 1), (9, 0), (0, 0), (0, (((0 + 1) + 1) + 1)), (0, x18), (0, x14)]) zr_131_31 (Nat.le_of_ble_eq_true rfl) rfl ?_
                refine zw_7 zr_131_33 rfl ?_
                refine zw_46r (s := 1) zr_131_34 rfl rfl rfl rfl ?_
                refine zw_46r (s := 4) zr_131_37 rfl rfl rfl rfl ?_
                refine zw_3 zr_131_40 rfl ?_
                refine zw_push zr_131_41 ?_
                refine zw_18 zr_131_42 (by omega) ?_
                refine zw_4 zr_131_43 rfl ?_
                refine zw_16 zr_131_45 (by omega) ?_
                refine zw_48 (c := 4) (len := 40) zr_131_46 rfl rfl (by omega) (by omega) ?_
                intro x19 ex19
                have bx19 := ib_4 hI0 (k := (((a0 * 4) + (((0 + 1) + 1) + 1))).toNat) (by omega)
                rw [← ex19] at bx19
                have qx19 : x19 = F4 (((a0 * 4) + (((0 + 1) + 1) + 1))).toNat := by rw [← hG4]; exact ex19
                clear ex19
                skip
                skip
                refine zw_10 (L' := [(2, 0), (0, a0), (1, 0), (9, 0), (1, 1), (9, 0), (0, 0), (0, (((0 + 1) + 1) + 1)), (0, x18), (0, x19)]) zr_131_47 (Nat.le_of_ble_eq_true rfl) rfl ?_
                refine zw_4 zr_131_49 rfl ?_
                refine zw_40_5 zr_131_51 ?_ ?_
                · intro h20
                  have hP4 := prs_n (R := (fun c => F3 (a0.toNat * 4 + c))) (A := (fun c => F4 (a0.toNat * 4 + c))) (W := F13) (k := 4) hP3 rfl (qx19.trans (congrArg F4 (by omega))) (by omega)
                  refine zw_15 (c := 1) (L' := [(2, 0), (0, a0), (1, 0), (9, 0), (1, 1), (9, 0), (0, 0), (0, ((((0 + 1) + 1) + 1) + 1)), (0, x18), (0, x19)]) zr_131_102 rfl (by decide) (by omega) rfl ?_
                  refine zw_42 zr_131_105 ?_
                  skip
                  refine zw_4 zr_131_11 rfl ?_
                  refine zw_push zr_131_13 ?_
                  refine zw_41_3 zr_131_14 ?_ ?_
                  · intro h21
                    refine zw_7 zr_131_108 rfl ?_
                    refine zw_46r (s := 42) zr_131_109 rfl rfl rfl rfl ?_
                    refine zw_5 zr_131_112 rfl ?_
                    refine zw_6 zr_131_113 rfl ?_
                    refine zw_4 zr_131_115 rfl ?_
                    refine zw_36 zr_131_117 ?_
                    refine zw_29 zr_131_118 (by omega) ?_
                    skip
                    refine zw_C zr_131_119 (Or.inl rfl) zm_38 rfl rfl ⟨Nat.le_of_ble_eq_true rfl, Nat.le_of_ble_eq_true rfl, Nat.le_of_ble_eq_true rfl, rfl, by decide⟩ (by omega) (th_38 (d := d - 1) (by omega) hI0 (a0 := 0) (a1 := (1 * 0))      (by omega) (by omega) ) ?_
                    rintro _ m22 ⟨rfl, hIm22, gm22, po0_m22⟩
                    have hFm22 : zFr W_131 m0 m22 := hF0.trans gm22 rfl
                    have fm22_3 : m22 3 = F3 := (funext fun k => gm22 3 k rfl).trans hG3
                    have fm22_4 : m22 4 = F4 := (funext fun k => gm22 4 k rfl).trans hG4
                    have fm22_13 : m22 13 = F13 := (funext fun k => gm22 13 k rfl).trans hG13
                    obtain ⟨f23, ef23⟩ : ∃ v, m22 42 0 = v := ⟨_, rfl⟩
                    have bf23 := hIm22.fl (c := 42) (k := 0) rfl
                    rw [ef23] at bf23
                    rw [ef23] at po0_m22
                    obtain ⟨f24, ef24⟩ : ∃ v, m22 42 1 = v := ⟨_, rfl⟩
                    have bf24 := hIm22.fl (c := 42) (k := 1) rfl
                    rw [ef24] at bf24
                    rw [ef24] at po0_m22
                    show zW E (d) 131 122 [(2, 0), (0, a0), (1, 0), (9, 0), (1, 1), (9, 0), (0, 0), (0, ((((0 + 1) + 1) + 1) + 1)), (0, x18), (0, x19)] [] m22 Q
                    have hF := prs_t hP4 rfl po0_m22
                    refine zw_R zr_131_122 (by decide) zm_131 (v := (9, 0)) rfl ?_
                    rw [← hQ]; exact ⟨rfl, hIm22, hFm22, by rw [ef23, ef24]; exact hF⟩
                  · intro h26; omega
                · intro h27
                  refine zw_5 zr_131_54 rfl ?_
                  refine zw_4 zr_131_55 rfl ?_
                  refine zw_36 zr_131_57 ?_
                  refine zw_29 zr_131_58 (by omega) ?_
                  skip
                  refine zw_6 zr_131_59 rfl ?_
                  refine zw_7 zr_131_61 rfl ?_
                  refine zw_46r (s := 1) zr_131_62 rfl rfl rfl rfl ?_
                  refine zw_46r (s := 13) zr_131_65 rfl rfl rfl rfl ?_
                  refine zw_4 zr_131_68 rfl ?_
                  obtain ⟨f28, ef28⟩ : ∃ v, m0 13 3 = v := ⟨_, rfl⟩
                  have bf28 : 1 ≤ m0 13 3 ∧ m0 13 3 ≤ 9 := ib_13 hI0 (by omega)
                  rw [ef28] at bf28
                  refine zw_48k (c := 13) (len := 4) zr_131_70 rfl rfl (by omega) (by omega) (show ((((0 + 1) + 1) + 1) : Int).toNat = 3 by omega) ef28 ?_
                  have qf28 : f28 = F13 ((((0 + 1) + 1) + 1) : Int).toNat := by rw [show ((((0 + 1) + 1) + 1) : Int).toNat = 3 by omega, ← hG13]; exact (ef28).symm
                  skip
                  refine zw_36 zr_131_71 ?_
                  refine zw_29 zr_131_72 (by omega) ?_
                  skip
                  refine zw_4 zr_131_73 rfl ?_
                  refine zw_36 zr_131_75 ?_
                  refine zw_29n (A := 9) (B := 99) zr_131_76 (by omega) (by omega) (by decide) ?_
                  intro x29 ex29 hx29a hx29b
                  skip
                  refine zw_27 zr_131_77 (by omega) ?_
                  refine zw_13 (L' := [(2, 0), (0, a0), (1, ((0 * x19) + x29)), (9, 0), (1, 1), (9, 0), (0, 0), (0, (((0 + 1) + 1) + 1)), (0, x18), (0, x19)]) zr_131_78 (Nat.le_of_ble_eq_true rfl) rfl ?_
                  refine zw_6 zr_131_79 rfl ?_
                  refine zw_4 zr_131_81 rfl ?_
                  refine zw_36 zr_131_83 ?_
                  refine zw_29 zr_131_84 (by omega) ?_
                  skip
                  skip
                  refine zw_14 (L' := [(2, 0), (0, a0), (1, ((0 * x19) + x29)), (9, 0), (1, (1 * x19)), (9, 0), (0, 0), (0, (((0 + 1) + 1) + 1)), (0, x18), (0, x19)]) zr_131_85 (Nat.le_of_ble_eq_true rfl) rfl ?_
                  refine zw_4 zr_131_87 rfl ?_
                  refine zw_7 zr_131_89 rfl ?_
                  refine zw_46r (s := 1) zr_131_90 rfl rfl rfl rfl ?_
                  refine zw_46r (s := 13) zr_131_93 rfl rfl rfl rfl ?_
                  refine zw_4 zr_131_96 rfl ?_
                  refine zw_48k (c := 13) (len := 4) zr_131_98 rfl rfl (by omega) (by omega) (show ((((0 + 1) + 1) + 1) : Int).toNat = 3 by omega) ef28 ?_
                  have qf28 : f28 = F13 ((((0 + 1) + 1) + 1) : Int).toNat := by rw [show ((((0 + 1) + 1) + 1) : Int).toNat = 3 by omega, ← hG13]; exact (ef28).symm
                  refine zw_16 zr_131_99 (by omega) ?_
                  refine zw_10 (L' := [(2, 0), (0, a0), (1, ((0 * x19) + x29)), (9, 0), (1, (1 * x19)), (9, 0), (0, (0 + f28)), (0, (((0 + 1) + 1) + 1)), (0, x18), (0, x19)]) zr_131_100 (Nat.le_of_ble_eq_true rfl) rfl ?_
                  have hP4 := prs_y (R := (fun c => F3 (a0.toNat * 4 + c))) (A := (fun c => F4 (a0.toNat * 4 + c))) (W := F13) (k := 4) hP3 rfl (qx18.trans (congrArg F3 (by omega))) (qx19.trans (congrArg F4 (by omega))) (qf28.trans (congrArg F13 (by omega))) (by omega) rfl rfl ex29 rfl ⟨rfl, rfl⟩
                  refine zw_15 (c := 1) (L' := [(2, 0), (0, a0), (1, ((0 * x19) + x29)), (9, 0), (1, (1 * x19)), (9, 0), (0, (0 + f28)), (0, ((((0 + 1) + 1) + 1) + 1)), (0, x18), (0, x19)]) zr_131_102 rfl (by decide) (by omega) rfl ?_
                  refine zw_42 zr_131_105 ?_
                  skip
                  refine zw_4 zr_131_11 rfl ?_
                  refine zw_push zr_131_13 ?_
                  refine zw_41_3 zr_131_14 ?_ ?_
                  · intro h30
                    refine zw_7 zr_131_108 rfl ?_
                    refine zw_46r (s := 42) zr_131_109 rfl rfl rfl rfl ?_
                    refine zw_5 zr_131_112 rfl ?_
                    refine zw_6 zr_131_113 rfl ?_
                    refine zw_4 zr_131_115 rfl ?_
                    refine zw_36 zr_131_117 ?_
                    refine zw_29s (A := 99) (B := 9) zr_131_118 (by omega) (by omega) (by decide) ?_
                    intro x31 ex31 hx31a hx31b
                    skip
                    refine zw_C zr_131_119 (Or.inl rfl) zm_38 rfl rfl ⟨Nat.le_of_ble_eq_true rfl, Nat.le_of_ble_eq_true rfl, Nat.le_of_ble_eq_true rfl, rfl, by decide⟩ (by omega) (th_38 (d := d - 1) (by omega) hI0 (a0 := ((0 * x19) + x29)) (a1 := x31)      (by omega) (by omega) ) ?_
                    rintro _ m32 ⟨rfl, hIm32, gm32, po0_m32⟩
                    have hFm32 : zFr W_131 m0 m32 := hF0.trans gm32 rfl
                    have km32_13_3 : m32 13 3 = f28 := (gm32 13 3 rfl).trans ef28
                    have fm32_3 : m32 3 = F3 := (funext fun k => gm32 3 k rfl).trans hG3
                    have fm32_4 : m32 4 = F4 := (funext fun k => gm32 4 k rfl).trans hG4
                    have fm32_13 : m32 13 = F13 := (funext fun k => gm32 13 k rfl).trans hG13
                    obtain ⟨f33, ef33⟩ : ∃ v, m32 42 0 = v := ⟨_, rfl⟩
                    have bf33 := hIm32.fl (c := 42) (k := 0) rfl
                    rw [ef33] at bf33
                    rw [ef33] at po0_m32
                    obtain ⟨f34, ef34⟩ : ∃ v, m32 42 1 = v := ⟨_, rfl⟩
                    have bf34 := hIm32.fl (c := 42) (k := 1) rfl
                    rw [ef34] at bf34
                    rw [ef34] at po0_m32
                    show zW E (d) 131 122 [(2, 0), (0, a0), (1, ((0 * x19) + x29)), (9, 0), (1, (1 * x19)), (9, 0), (0, (0 + f28)), (0, ((((0 + 1) + 1) + 1) + 1)), (0, x18), (0, x19)] [] m32 Q
                    have hF := prs_t hP4 ex31 po0_m32
                    refine zw_R zr_131_122 (by decide) zm_131 (v := (9, 0)) rfl ?_
                    rw [← hQ]; exact ⟨rfl, hIm32, hFm32, by rw [ef33, ef34]; exact hF⟩
                  · intro h36; omega
            · intro h37
              refine zw_5 zr_131_54 rfl ?_
              refine zw_4 zr_131_55 rfl ?_
              refine zw_36 zr_131_57 ?_
              refine zw_29 zr_131_58 (by omega) ?_
              skip
              refine zw_6 zr_131_59 rfl ?_
              refine zw_7 zr_131_61 rfl ?_
              refine zw_46r (s := 1) zr_131_62 rfl rfl rfl rfl ?_
              refine zw_46r (s := 13) zr_131_65 rfl rfl rfl rfl ?_
              refine zw_4 zr_131_68 rfl ?_
              obtain ⟨f38, ef38⟩ : ∃ v, m0 13 2 = v := ⟨_, rfl⟩
              have bf38 : 1 ≤ m0 13 2 ∧ m0 13 2 ≤ 9 := ib_13 hI0 (by omega)
              rw [ef38] at bf38
              refine zw_48k (c := 13) (len := 4) zr_131_70 rfl rfl (by omega) (by omega) (show (((0 + 1) + 1) : Int).toNat = 2 by omega) ef38 ?_
              have qf38 : f38 = F13 (((0 + 1) + 1) : Int).toNat := by rw [show (((0 + 1) + 1) : Int).toNat = 2 by omega, ← hG13]; exact (ef38).symm
              skip
              refine zw_36 zr_131_71 ?_
              refine zw_29 zr_131_72 (by omega) ?_
              skip
              refine zw_4 zr_131_73 rfl ?_
              refine zw_36 zr_131_75 ?_
              refine zw_29n (A := 9) (B := 99) zr_131_76 (by omega) (by omega) (by decide) ?_
              intro x39 ex39 hx39a hx39b
              skip
              refine zw_27 zr_131_77 (by omega) ?_
              refine zw_13 (L' := [(2, 0), (0, a0), (1, ((0 * x14) + x39)), (9, 0), (1, 1), (9, 0), (0, 0), (0, ((0 + 1) + 1)), (0, x13), (0, x14)]) zr_131_78 (Nat.le_of_ble_eq_true rfl) rfl ?_
              refine zw_6 zr_131_79 rfl ?_
              refine zw_4 zr_131_81 rfl ?_
              refine zw_36 zr_131_83 ?_
              refine zw_29 zr_131_84 (by omega) ?_
              skip
              skip
              refine zw_14 (L' := [(2, 0), (0, a0), (1, ((0 * x14) + x39)), (9, 0), (1, (1 * x14)), (9, 0), (0, 0), (0, ((0 + 1) + 1)), (0, x13), (0, x14)]) zr_131_85 (Nat.le_of_ble_eq_true rfl) rfl ?_
              refine zw_4 zr_131_87 rfl ?_
              refine zw_7 zr_131_89 rfl ?_
              refine zw_46r (s := 1) zr_131_90 rfl rfl rfl rfl ?_
              refine zw_46r (s := 13) zr_131_93 rfl rfl rfl rfl ?_
              refine zw_4 zr_131_96 rfl ?_
              refine zw_48k (c := 13) (len := 4) zr_131_98 rfl rfl (by omega) (by omega) (show (((0 + 1) + 1) : Int).toNat = 2 by omega) ef38 ?_
              have qf38 : f38 = F13 (((0 + 1) + 1) : Int).toNat := by rw [show (((0 + 1) + 1) : Int).toNat = 2 by omega, ← hG13]; exact (ef38).symm
              refine zw_16 zr_131_99 (by omega) ?_
              refine zw_10 (L' := [(2, 0), (0, a0), (1, ((0 * x14) + x39)), (9, 0), (1, (1 * x14)), (9, 0), (0, (0 + f38)), (0, ((0 + 1) + 1)), (0, x13), (0, x14)]) zr_131_100 (Nat.le_of_ble_eq_true rfl) rfl ?_
              have hP3 := prs_y (R := (fun c => F3 (a0.toNat * 4 + c))) (A := (fun c => F4 (a0.toNat * 4 + c))) (W := F13) (k := 3) hP2 rfl (qx13.trans (congrArg F3 (by omega))) (qx14.trans (congrArg F4 (by omega))) (qf38.trans (congrArg F13 (by omega))) (by omega) rfl rfl ex39 rfl ⟨rfl, rfl⟩
              refine zw_15 (c := 1) (L' := [(2, 0), (0, a0), (1, ((0 * x14) + x39)), (9, 0), (1, (1 * x14)), (9, 0), (0, (0 + f38)), (0, (((0 + 1) + 1) + 1)), (0, x13), (0, x14)]) zr_131_102 rfl (by decide) (by omega) rfl ?_
              refine zw_42 zr_131_105 ?_
              skip
              refine zw_4 zr_131_11 rfl ?_
              refine zw_push zr_131_13 ?_
              refine zw_41_3 zr_131_14 ?_ ?_
              · intro h40; omega
              · intro h41
                refine zw_7 zr_131_17 rfl ?_
                refine zw_46r (s := 1) zr_131_18 rfl rfl rfl rfl ?_
                refine zw_46r (s := 3) zr_131_21 rfl rfl rfl rfl ?_
                refine zw_3 zr_131_24 rfl ?_
                refine zw_push zr_131_25 ?_
                refine zw_18 zr_131_26 (by omega) ?_
                refine zw_4 zr_131_27 rfl ?_
                refine zw_16 zr_131_29 (by omega) ?_
                refine zw_48 (c := 3) (len := 40) zr_131_30 rfl rfl (by omega) (by omega) ?_
                intro x42 ex42
                have bx42 := ib_3 hI0 (k := (((a0 * 4) + (((0 + 1) + 1) + 1))).toNat) (by omega)
                rw [← ex42] at bx42
                have qx42 : x42 = F3 (((a0 * 4) + (((0 + 1) + 1) + 1))).toNat := by rw [← hG3]; exact ex42
                clear ex42
                skip
                refine zw_10 (L' := [(2, 0), (0, a0), (1, ((0 * x14) + x39)), (9, 0), (1, (1 * x14)), (9, 0), (0, (0 + f38)), (0, (((0 + 1) + 1) + 1)), (0, x42), (0, x14)]) zr_131_31 (Nat.le_of_ble_eq_true rfl) rfl ?_
                refine zw_7 zr_131_33 rfl ?_
                refine zw_46r (s := 1) zr_131_34 rfl rfl rfl rfl ?_
                refine zw_46r (s := 4) zr_131_37 rfl rfl rfl rfl ?_
                refine zw_3 zr_131_40 rfl ?_
                refine zw_push zr_131_41 ?_
                refine zw_18 zr_131_42 (by omega) ?_
                refine zw_4 zr_131_43 rfl ?_
                refine zw_16 zr_131_45 (by omega) ?_
                refine zw_48 (c := 4) (len := 40) zr_131_46 rfl rfl (by omega) (by omega) ?_
                intro x43 ex43
                have bx43 := ib_4 hI0 (k := (((a0 * 4) + (((0 + 1) + 1) + 1))).toNat) (by omega)
                rw [← ex43] at bx43
                have qx43 : x43 = F4 (((a0 * 4) + (((0 + 1) + 1) + 1))).toNat := by rw [← hG4]; exact ex43
                clear ex43
                skip
                skip
                refine zw_10 (L' := [(2, 0), (0, a0), (1, ((0 * x14) + x39)), (9, 0), (1, (1 * x14)), (9, 0), (0, (0 + f38)), (0, (((0 + 1) + 1) + 1)), (0, x42), (0, x43)]) zr_131_47 (Nat.le_of_ble_eq_true rfl) rfl ?_
                refine zw_4 zr_131_49 rfl ?_
                refine zw_40_5 zr_131_51 ?_ ?_
                · intro h44
                  have hP4 := prs_n (R := (fun c => F3 (a0.toNat * 4 + c))) (A := (fun c => F4 (a0.toNat * 4 + c))) (W := F13) (k := 4) hP3 rfl (qx43.trans (congrArg F4 (by omega))) (by omega)
                  refine zw_15 (c := 1) (L' := [(2, 0), (0, a0), (1, ((0 * x14) + x39)), (9, 0), (1, (1 * x14)), (9, 0), (0, (0 + f38)), (0, ((((0 + 1) + 1) + 1) + 1)), (0, x42), (0, x43)]) zr_131_102 rfl (by decide) (by omega) rfl ?_
                  refine zw_42 zr_131_105 ?_
                  skip
                  refine zw_4 zr_131_11 rfl ?_
                  refine zw_push zr_131_13 ?_
                  refine zw_41_3 zr_131_14 ?_ ?_
                  · intro h45
                    refine zw_7 zr_131_108 rfl ?_
                    refine zw_46r (s := 42) zr_131_109 rfl rfl rfl rfl ?_
                    refine zw_5 zr_131_112 rfl ?_
                    refine zw_6 zr_131_113 rfl ?_
                    refine zw_4 zr_131_115 rfl ?_
                    refine zw_36 zr_131_117 ?_
                    refine zw_29s (A := 99) (B := 9) zr_131_118 (by omega) (by omega) (by decide) ?_
                    intro x46 ex46 hx46a hx46b
                    skip
                    refine zw_C zr_131_119 (Or.inl rfl) zm_38 rfl rfl ⟨Nat.le_of_ble_eq_true rfl, Nat.le_of_ble_eq_true rfl, Nat.le_of_ble_eq_true rfl, rfl, by decide⟩ (by omega) (th_38 (d := d - 1) (by omega) hI0 (a0 := ((0 * x14) + x39)) (a1 := x46)      (by omega) (by omega) ) ?_
                    rintro _ m47 ⟨rfl, hIm47, gm47, po0_m47⟩
                    have hFm47 : zFr W_131 m0 m47 := hF0.trans gm47 rfl
                    have km47_13_2 : m47 13 2 = f38 := (gm47 13 2 rfl).trans ef38
                    have fm47_3 : m47 3 = F3 := (funext fun k => gm47 3 k rfl).trans hG3
                    have fm47_4 : m47 4 = F4 := (funext fun k => gm47 4 k rfl).trans hG4
                    have fm47_13 : m47 13 = F13 := (funext fun k => gm47 13 k rfl).trans hG13
                    obtain ⟨f48, ef48⟩ : ∃ v, m47 42 0 = v := ⟨_, rfl⟩
                    have bf48 := hIm47.fl (c := 42) (k := 0) rfl
                    rw [ef48] at bf48
                    rw [ef48] at po0_m47
                    obtain ⟨f49, ef49⟩ : ∃ v, m47 42 1 = v := ⟨_, rfl⟩
                    have bf49 := hIm47.fl (c := 42) (k := 1) rfl
                    rw [ef49] at bf49
                    rw [ef49] at po0_m47
                    show zW E (d) 131 122 [(2, 0), (0, a0), (1, ((0 * x14) + x39)), (9, 0), (1, (1 * x14)), (9, 0), (0, (0 + f38)), (0, ((((0 + 1) + 1) + 1) + 1)), (0, x42), (0, x43)] [] m47 Q
                    have hF := prs_t hP4 ex46 po0_m47
                    refine zw_R zr_131_122 (by decide) zm_131 (v := (9, 0)) rfl ?_
                    rw [← hQ]; exact ⟨rfl, hIm47, hFm47, by rw [ef48, ef49]; exact hF⟩
                  · intro h51; omega
                · intro h52
                  refine zw_5 zr_131_54 rfl ?_
                  refine zw_4 zr_131_55 rfl ?_
                  refine zw_36 zr_131_57 ?_
                  refine zw_29n (A := 891) (B := 99) zr_131_58 (by omega) (by omega) (by decide) ?_
                  intro x53 ex53 hx53a hx53b
                  skip
                  refine zw_6 zr_131_59 rfl ?_
                  refine zw_7 zr_131_61 rfl ?_
                  refine zw_46r (s := 1) zr_131_62 rfl rfl rfl rfl ?_
                  refine zw_46r (s := 13) zr_131_65 rfl rfl rfl rfl ?_
                  refine zw_4 zr_131_68 rfl ?_
                  obtain ⟨f54, ef54⟩ : ∃ v, m0 13 3 = v := ⟨_, rfl⟩
                  have bf54 : 1 ≤ m0 13 3 ∧ m0 13 3 ≤ 9 := ib_13 hI0 (by omega)
                  rw [ef54] at bf54
                  refine zw_48k (c := 13) (len := 4) zr_131_70 rfl rfl (by omega) (by omega) (show ((((0 + 1) + 1) + 1) : Int).toNat = 3 by omega) ef54 ?_
                  have qf54 : f54 = F13 ((((0 + 1) + 1) + 1) : Int).toNat := by rw [show ((((0 + 1) + 1) + 1) : Int).toNat = 3 by omega, ← hG13]; exact (ef54).symm
                  skip
                  refine zw_36 zr_131_71 ?_
                  refine zw_29s (A := 99) (B := 9) zr_131_72 (by omega) (by omega) (by decide) ?_
                  intro x55 ex55 hx55a hx55b
                  skip
                  refine zw_4 zr_131_73 rfl ?_
                  refine zw_36 zr_131_75 ?_
                  refine zw_29n (A := 891) (B := 99) zr_131_76 (by omega) (by omega) (by decide) ?_
                  intro x56 ex56 hx56a hx56b
                  skip
                  refine zw_27 zr_131_77 (by omega) ?_
                  refine zw_13 (L' := [(2, 0), (0, a0), (1, (x53 + x56)), (9, 0), (1, (1 * x14)), (9, 0), (0, (0 + f38)), (0, (((0 + 1) + 1) + 1)), (0, x42), (0, x43)]) zr_131_78 (Nat.le_of_ble_eq_true rfl) rfl ?_
                  refine zw_6 zr_131_79 rfl ?_
                  refine zw_4 zr_131_81 rfl ?_
                  refine zw_36 zr_131_83 ?_
                  refine zw_29s (A := 99) (B := 99) zr_131_84 (by omega) (by omega) (by decide) ?_
                  intro x57 ex57 hx57a hx57b
                  skip
                  skip
                  refine zw_14 (L' := [(2, 0), (0, a0), (1, (x53 + x56)), (9, 0), (1, x57), (9, 0), (0, (0 + f38)), (0, (((0 + 1) + 1) + 1)), (0, x42), (0, x43)]) zr_131_85 (Nat.le_of_ble_eq_true rfl) rfl ?_
                  refine zw_4 zr_131_87 rfl ?_
                  refine zw_7 zr_131_89 rfl ?_
                  refine zw_46r (s := 1) zr_131_90 rfl rfl rfl rfl ?_
                  refine zw_46r (s := 13) zr_131_93 rfl rfl rfl rfl ?_
                  refine zw_4 zr_131_96 rfl ?_
                  refine zw_48k (c := 13) (len := 4) zr_131_98 rfl rfl (by omega) (by omega) (show ((((0 + 1) + 1) + 1) : Int).toNat = 3 by omega) ef54 ?_
                  have qf54 : f54 = F13 ((((0 + 1) + 1) + 1) : Int).toNat := by rw [show ((((0 + 1) + 1) + 1) : Int).toNat = 3 by omega, ← hG13]; exact (ef54).symm
                  refine zw_16 zr_131_99 (by omega) ?_
                  refine zw_10 (L' := [(2, 0), (0, a0), (1, (x53 + x56)), (9, 0), (1, x57), (9, 0), (0, ((0 + f38) + f54)), (0, (((0 + 1) + 1) + 1)), (0, x42), (0, x43)]) zr_131_100 (Nat.le_of_ble_eq_true rfl) rfl ?_
                  have hP4 := prs_y (R := (fun c => F3 (a0.toNat * 4 + c))) (A := (fun c => F4 (a0.toNat * 4 + c))) (W := F13) (k := 4) hP3 rfl (qx42.trans (congrArg F3 (by omega))) (qx43.trans (congrArg F4 (by omega))) (qf54.trans (congrArg F13 (by omega))) (by omega) ex53 ex55 ex56 ex57 ⟨rfl, rfl⟩
                  refine zw_15 (c := 1) (L' := [(2, 0), (0, a0), (1, (x53 + x56)), (9, 0), (1, x57), (9, 0), (0, ((0 + f38) + f54)), (0, ((((0 + 1) + 1) + 1) + 1)), (0, x42), (0, x43)]) zr_131_102 rfl (by decide) (by omega) rfl ?_
                  refine zw_42 zr_131_105 ?_
                  skip
                  refine zw_4 zr_131_11 rfl ?_
                  refine zw_push zr_131_13 ?_
                  refine zw_41_3 zr_131_14 ?_ ?_
                  · intro h58
                    refine zw_7 zr_131_108 rfl ?_
                    refine zw_46r (s := 42) zr_131_109 rfl rfl rfl rfl ?_
                    refine zw_5 zr_131_112 rfl ?_
                    refine zw_6 zr_131_113 rfl ?_
                    refine zw_4 zr_131_115 rfl ?_
                    refine zw_36 zr_131_117 ?_
                    refine zw_29s (A := 9801) (B := 18) zr_131_118 (by omega) (by omega) (by decide) ?_
                    intro x59 ex59 hx59a hx59b
                    skip
                    refine zw_C zr_131_119 (Or.inl rfl) zm_38 rfl rfl ⟨Nat.le_of_ble_eq_true rfl, Nat.le_of_ble_eq_true rfl, Nat.le_of_ble_eq_true rfl, rfl, by decide⟩ (by omega) (th_38 (d := d - 1) (by omega) hI0 (a0 := (x53 + x56)) (a1 := x59)      (by omega) (by omega) ) ?_
                    rintro _ m60 ⟨rfl, hIm60, gm60, po0_m60⟩
                    have hFm60 : zFr W_131 m0 m60 := hF0.trans gm60 rfl
                    have km60_13_2 : m60 13 2 = f38 := (gm60 13 2 rfl).trans ef38
                    have km60_13_3 : m60 13 3 = f54 := (gm60 13 3 rfl).trans ef54
                    have fm60_3 : m60 3 = F3 := (funext fun k => gm60 3 k rfl).trans hG3
                    have fm60_4 : m60 4 = F4 := (funext fun k => gm60 4 k rfl).trans hG4
                    have fm60_13 : m60 13 = F13 := (funext fun k => gm60 13 k rfl).trans hG13
                    obtain ⟨f61, ef61⟩ : ∃ v, m60 42 0 = v := ⟨_, rfl⟩
                    have bf61 := hIm60.fl (c := 42) (k := 0) rfl
                    rw [ef61] at bf61
                    rw [ef61] at po0_m60
                    obtain ⟨f62, ef62⟩ : ∃ v, m60 42 1 = v := ⟨_, rfl⟩
                    have bf62 := hIm60.fl (c := 42) (k := 1) rfl
                    rw [ef62] at bf62
                    rw [ef62] at po0_m60
                    show zW E (d) 131 122 [(2, 0), (0, a0), (1, (x53 + x56)), (9, 0), (1, x57), (9, 0), (0, ((0 + f38) + f54)), (0, ((((0 + 1) + 1) + 1) + 1)), (0, x42), (0, x43)] [] m60 Q
                    have hF := prs_t hP4 ex59 po0_m60
                    refine zw_R zr_131_122 (by decide) zm_131 (v := (9, 0)) rfl ?_
                    rw [← hQ]; exact ⟨rfl, hIm60, hFm60, by rw [ef61, ef62]; exact hF⟩
                  · intro h64; omega
        · intro h65
          refine zw_5 zr_131_54 rfl ?_
          refine zw_4 zr_131_55 rfl ?_
          refine zw_36 zr_131_57 ?_
          refine zw_29 zr_131_58 (by omega) ?_
          skip
          refine zw_6 zr_131_59 rfl ?_
          refine zw_7 zr_131_61 rfl ?_
          refine zw_46r (s := 1) zr_131_62 rfl rfl rfl rfl ?_
          refine zw_46r (s := 13) zr_131_65 rfl rfl rfl rfl ?_
          refine zw_4 zr_131_68 rfl ?_
          obtain ⟨f66, ef66⟩ : ∃ v, m0 13 1 = v := ⟨_, rfl⟩
          have bf66 : 1 ≤ m0 13 1 ∧ m0 13 1 ≤ 9 := ib_13 hI0 (by omega)
          rw [ef66] at bf66
          refine zw_48k (c := 13) (len := 4) zr_131_70 rfl rfl (by omega) (by omega) (show ((0 + 1) : Int).toNat = 1 by omega) ef66 ?_
          have qf66 : f66 = F13 ((0 + 1) : Int).toNat := by rw [show ((0 + 1) : Int).toNat = 1 by omega, ← hG13]; exact (ef66).symm
          skip
          refine zw_36 zr_131_71 ?_
          refine zw_29 zr_131_72 (by omega) ?_
          skip
          refine zw_4 zr_131_73 rfl ?_
          refine zw_36 zr_131_75 ?_
          refine zw_29n (A := 9) (B := 99) zr_131_76 (by omega) (by omega) (by decide) ?_
          intro x67 ex67 hx67a hx67b
          skip
          refine zw_27 zr_131_77 (by omega) ?_
          refine zw_13 (L' := [(2, 0), (0, a0), (1, ((0 * x9) + x67)), (9, 0), (1, 1), (9, 0), (0, 0), (0, (0 + 1)), (0, x8), (0, x9)]) zr_131_78 (Nat.le_of_ble_eq_true rfl) rfl ?_
          refine zw_6 zr_131_79 rfl ?_
          refine zw_4 zr_131_81 rfl ?_
          refine zw_36 zr_131_83 ?_
          refine zw_29 zr_131_84 (by omega) ?_
          skip
          skip
          refine zw_14 (L' := [(2, 0), (0, a0), (1, ((0 * x9) + x67)), (9, 0), (1, (1 * x9)), (9, 0), (0, 0), (0, (0 + 1)), (0, x8), (0, x9)]) zr_131_85 (Nat.le_of_ble_eq_true rfl) rfl ?_
          refine zw_4 zr_131_87 rfl ?_
          refine zw_7 zr_131_89 rfl ?_
          refine zw_46r (s := 1) zr_131_90 rfl rfl rfl rfl ?_
          refine zw_46r (s := 13) zr_131_93 rfl rfl rfl rfl ?_
          refine zw_4 zr_131_96 rfl ?_
          refine zw_48k (c := 13) (len := 4) zr_131_98 rfl rfl (by omega) (by omega) (show ((0 + 1) : Int).toNat = 1 by omega) ef66 ?_
          have qf66 : f66 = F13 ((0 + 1) : Int).toNat := by rw [show ((0 + 1) : Int).toNat = 1 by omega, ← hG13]; exact (ef66).symm
          refine zw_16 zr_131_99 (by omega) ?_
          refine zw_10 (L' := [(2, 0), (0, a0), (1, ((0 * x9) + x67)), (9, 0), (1, (1 * x9)), (9, 0), (0, (0 + f66)), (0, (0 + 1)), (0, x8), (0, x9)]) zr_131_100 (Nat.le_of_ble_eq_true rfl) rfl ?_
          have hP2 := prs_y (R := (fun c => F3 (a0.toNat * 4 + c))) (A := (fun c => F4 (a0.toNat * 4 + c))) (W := F13) (k := 2) hP1 rfl (qx8.trans (congrArg F3 (by omega))) (qx9.trans (congrArg F4 (by omega))) (qf66.trans (congrArg F13 (by omega))) (by omega) rfl rfl ex67 rfl ⟨rfl, rfl⟩
          refine zw_15 (c := 1) (L' := [(2, 0), (0, a0), (1, ((0 * x9) + x67)), (9, 0), (1, (1 * x9)), (9, 0), (0, (0 + f66)), (0, ((0 + 1) + 1)), (0, x8), (0, x9)]) zr_131_102 rfl (by decide) (by omega) rfl ?_
          refine zw_42 zr_131_105 ?_
          skip
          refine zw_4 zr_131_11 rfl ?_
          refine zw_push zr_131_13 ?_
          refine zw_41_3 zr_131_14 ?_ ?_
          · intro h68; omega
          · intro h69
            refine zw_7 zr_131_17 rfl ?_
            refine zw_46r (s := 1) zr_131_18 rfl rfl rfl rfl ?_
            refine zw_46r (s := 3) zr_131_21 rfl rfl rfl rfl ?_
            refine zw_3 zr_131_24 rfl ?_
            refine zw_push zr_131_25 ?_
            refine zw_18 zr_131_26 (by omega) ?_
            refine zw_4 zr_131_27 rfl ?_
            refine zw_16 zr_131_29 (by omega) ?_
            refine zw_48 (c := 3) (len := 40) zr_131_30 rfl rfl (by omega) (by omega) ?_
            intro x70 ex70
            have bx70 := ib_3 hI0 (k := (((a0 * 4) + ((0 + 1) + 1))).toNat) (by omega)
            rw [← ex70] at bx70
            have qx70 : x70 = F3 (((a0 * 4) + ((0 + 1) + 1))).toNat := by rw [← hG3]; exact ex70
            clear ex70
            skip
            refine zw_10 (L' := [(2, 0), (0, a0), (1, ((0 * x9) + x67)), (9, 0), (1, (1 * x9)), (9, 0), (0, (0 + f66)), (0, ((0 + 1) + 1)), (0, x70), (0, x9)]) zr_131_31 (Nat.le_of_ble_eq_true rfl) rfl ?_
            refine zw_7 zr_131_33 rfl ?_
            refine zw_46r (s := 1) zr_131_34 rfl rfl rfl rfl ?_
            refine zw_46r (s := 4) zr_131_37 rfl rfl rfl rfl ?_
            refine zw_3 zr_131_40 rfl ?_
            refine zw_push zr_131_41 ?_
            refine zw_18 zr_131_42 (by omega) ?_
            refine zw_4 zr_131_43 rfl ?_
            refine zw_16 zr_131_45 (by omega) ?_
            refine zw_48 (c := 4) (len := 40) zr_131_46 rfl rfl (by omega) (by omega) ?_
            intro x71 ex71
            have bx71 := ib_4 hI0 (k := (((a0 * 4) + ((0 + 1) + 1))).toNat) (by omega)
            rw [← ex71] at bx71
            have qx71 : x71 = F4 (((a0 * 4) + ((0 + 1) + 1))).toNat := by rw [← hG4]; exact ex71
            clear ex71
            skip
            skip
            refine zw_10 (L' := [(2, 0), (0, a0), (1, ((0 * x9) + x67)), (9, 0), (1, (1 * x9)), (9, 0), (0, (0 + f66)), (0, ((0 + 1) + 1)), (0, x70), (0, x71)]) zr_131_47 (Nat.le_of_ble_eq_true rfl) rfl ?_
            refine zw_4 zr_131_49 rfl ?_
            refine zw_40_5 zr_131_51 ?_ ?_
            · intro h72
              have hP3 := prs_n (R := (fun c => F3 (a0.toNat * 4 + c))) (A := (fun c => F4 (a0.toNat * 4 + c))) (W := F13) (k := 3) hP2 rfl (qx71.trans (congrArg F4 (by omega))) (by omega)
              refine zw_15 (c := 1) (L' := [(2, 0), (0, a0), (1, ((0 * x9) + x67)), (9, 0), (1, (1 * x9)), (9, 0), (0, (0 + f66)), (0, (((0 + 1) + 1) + 1)), (0, x70), (0, x71)]) zr_131_102 rfl (by decide) (by omega) rfl ?_
              refine zw_42 zr_131_105 ?_
              skip
              refine zw_4 zr_131_11 rfl ?_
              refine zw_push zr_131_13 ?_
              refine zw_41_3 zr_131_14 ?_ ?_
              · intro h73; omega
              · intro h74
                refine zw_7 zr_131_17 rfl ?_
                refine zw_46r (s := 1) zr_131_18 rfl rfl rfl rfl ?_
                refine zw_46r (s := 3) zr_131_21 rfl rfl rfl rfl ?_
                refine zw_3 zr_131_24 rfl ?_
                refine zw_push zr_131_25 ?_
                refine zw_18 zr_131_26 (by omega) ?_
                refine zw_4 zr_131_27 rfl ?_
                refine zw_16 zr_131_29 (by omega) ?_
                refine zw_48 (c := 3) (len := 40) zr_131_30 rfl rfl (by omega) (by omega) ?_
                intro x75 ex75
                have bx75 := ib_3 hI0 (k := (((a0 * 4) + (((0 + 1) + 1) + 1))).toNat) (by omega)
                rw [← ex75] at bx75
                have qx75 : x75 = F3 (((a0 * 4) + (((0 + 1) + 1) + 1))).toNat := by rw [← hG3]; exact ex75
                clear ex75
                skip
                refine zw_10 (L' := [(2, 0), (0, a0), (1, ((0 * x9) + x67)), (9, 0), (1, (1 * x9)), (9, 0), (0, (0 + f66)), (0, (((0 + 1) + 1) + 1)), (0, x75), (0, x71)]) zr_131_31 (Nat.le_of_ble_eq_true rfl) rfl ?_
                refine zw_7 zr_131_33 rfl ?_
                refine zw_46r (s := 1) zr_131_34 rfl rfl rfl rfl ?_
                refine zw_46r (s := 4) zr_131_37 rfl rfl rfl rfl ?_
                refine zw_3 zr_131_40 rfl ?_
                refine zw_push zr_131_41 ?_
                refine zw_18 zr_131_42 (by omega) ?_
                refine zw_4 zr_131_43 rfl ?_
                refine zw_16 zr_131_45 (by omega) ?_
                refine zw_48 (c := 4) (len := 40) zr_131_46 rfl rfl (by omega) (by omega) ?_
                intro x76 ex76
                have bx76 := ib_4 hI0 (k := (((a0 * 4) + (((0 + 1) + 1) + 1))).toNat) (by omega)
                rw [← ex76] at bx76
                have qx76 : x76 = F4 (((a0 * 4) + (((0 + 1) + 1) + 1))).toNat := by rw [← hG4]; exact ex76
                clear ex76
                skip
                skip
                refine zw_10 (L' := [(2, 0), (0, a0), (1, ((0 * x9) + x67)), (9, 0), (1, (1 * x9)), (9, 0), (0, (0 + f66)), (0, (((0 + 1) + 1) + 1)), (0, x75), (0, x76)]) zr_131_47 (Nat.le_of_ble_eq_true rfl) rfl ?_
                refine zw_4 zr_131_49 rfl ?_
                refine zw_40_5 zr_131_51 ?_ ?_
                · intro h77
                  have hP4 := prs_n (R := (fun c => F3 (a0.toNat * 4 + c))) (A := (fun c => F4 (a0.toNat * 4 + c))) (W := F13) (k := 4) hP3 rfl (qx76.trans (congrArg F4 (by omega))) (by omega)
                  refine zw_15 (c := 1) (L' := [(2, 0), (0, a0), (1, ((0 * x9) + x67)), (9, 0), (1, (1 * x9)), (9, 0), (0, (0 + f66)), (0, ((((0 + 1) + 1) + 1) + 1)), (0, x75), (0, x76)]) zr_131_102 rfl (by decide) (by omega) rfl ?_
                  refine zw_42 zr_131_105 ?_
                  skip
                  refine zw_4 zr_131_11 rfl ?_
                  refine zw_push zr_131_13 ?_
                  refine zw_41_3 zr_131_14 ?_ ?_
                  · intro h78
                    refine zw_7 zr_131_108 rfl ?_
                    refine zw_46r (s := 42) zr_131_109 rfl rfl rfl rfl ?_
                    refine zw_5 zr_131_112 rfl ?_
                    refine zw_6 zr_131_113 rfl ?_
                    refine zw_4 zr_131_115 rfl ?_
                    refine zw_36 zr_131_117 ?_
                    refine zw_29s (A := 99) (B := 9) zr_131_118 (by omega) (by omega) (by decide) ?_
                    intro x79 ex79 hx79a hx79b
                    skip
                    refine zw_C zr_131_119 (Or.inl rfl) zm_38 rfl rfl ⟨Nat.le_of_ble_eq_true rfl, Nat.le_of_ble_eq_true rfl, Nat.le_of_ble_eq_true rfl, rfl, by decide⟩ (by omega) (th_38 (d := d - 1) (by omega) hI0 (a0 := ((0 * x9) + x67)) (a1 := x79)      (by omega) (by omega) ) ?_
                    rintro _ m80 ⟨rfl, hIm80, gm80, po0_m80⟩
                    have hFm80 : zFr W_131 m0 m80 := hF0.trans gm80 rfl
                    have km80_13_1 : m80 13 1 = f66 := (gm80 13 1 rfl).trans ef66
                    have fm80_3 : m80 3 = F3 := (funext fun k => gm80 3 k rfl).trans hG3
                    have fm80_4 : m80 4 = F4 := (funext fun k => gm80 4 k rfl).trans hG4
                    have fm80_13 : m80 13 = F13 := (funext fun k => gm80 13 k rfl).trans hG13
                    obtain ⟨f81, ef81⟩ : ∃ v, m80 42 0 = v := ⟨_, rfl⟩
                    have bf81 := hIm80.fl (c := 42) (k := 0) rfl
                    rw [ef81] at bf81
                    rw [ef81] at po0_m80
                    obtain ⟨f82, ef82⟩ : ∃ v, m80 42 1 = v := ⟨_, rfl⟩
                    have bf82 := hIm80.fl (c := 42) (k := 1) rfl
                    rw [ef82] at bf82
                    rw [ef82] at po0_m80
                    show zW E (d) 131 122 [(2, 0), (0, a0), (1, ((0 * x9) + x67)), (9, 0), (1, (1 * x9)), (9, 0), (0, (0 + f66)), (0, ((((0 + 1) + 1) + 1) + 1)), (0, x75), (0, x76)] [] m80 Q
                    have hF := prs_t hP4 ex79 po0_m80
                    refine zw_R zr_131_122 (by decide) zm_131 (v := (9, 0)) rfl ?_
                    rw [← hQ]; exact ⟨rfl, hIm80, hFm80, by rw [ef81, ef82]; exact hF⟩
                  · intro h84; omega
                · intro h85
                  refine zw_5 zr_131_54 rfl ?_
                  refine zw_4 zr_131_55 rfl ?_
                  refine zw_36 zr_131_57 ?_
                  refine zw_29n (A := 891) (B := 99) zr_131_58 (by omega) (by omega) (by decide) ?_
                  intro x86 ex86 hx86a hx86b
                  skip
                  refine zw_6 zr_131_59 rfl ?_
                  refine zw_7 zr_131_61 rfl ?_
                  refine zw_46r (s := 1) zr_131_62 rfl rfl rfl rfl ?_
                  refine zw_46r (s := 13) zr_131_65 rfl rfl rfl rfl ?_
                  refine zw_4 zr_131_68 rfl ?_
                  obtain ⟨f87, ef87⟩ : ∃ v, m0 13 3 = v := ⟨_, rfl⟩
                  have bf87 : 1 ≤ m0 13 3 ∧ m0 13 3 ≤ 9 := ib_13 hI0 (by omega)
                  rw [ef87] at bf87
                  refine zw_48k (c := 13) (len := 4) zr_131_70 rfl rfl (by omega) (by omega) (show ((((0 + 1) + 1) + 1) : Int).toNat = 3 by omega) ef87 ?_
                  have qf87 : f87 = F13 ((((0 + 1) + 1) + 1) : Int).toNat := by rw [show ((((0 + 1) + 1) + 1) : Int).toNat = 3 by omega, ← hG13]; exact (ef87).symm
                  skip
                  refine zw_36 zr_131_71 ?_
                  refine zw_29s (A := 99) (B := 9) zr_131_72 (by omega) (by omega) (by decide) ?_
                  intro x88 ex88 hx88a hx88b
                  skip
                  refine zw_4 zr_131_73 rfl ?_
                  refine zw_36 zr_131_75 ?_
                  refine zw_29n (A := 891) (B := 99) zr_131_76 (by omega) (by omega) (by decide) ?_
                  intro x89 ex89 hx89a hx89b
                  skip
                  refine zw_27 zr_131_77 (by omega) ?_
                  refine zw_13 (L' := [(2, 0), (0, a0), (1, (x86 + x89)), (9, 0), (1, (1 * x9)), (9, 0), (0, (0 + f66)), (0, (((0 + 1) + 1) + 1)), (0, x75), (0, x76)]) zr_131_78 (Nat.le_of_ble_eq_true rfl) rfl ?_
                  refine zw_6 zr_131_79 rfl ?_
                  refine zw_4 zr_131_81 rfl ?_
                  refine zw_36 zr_131_83 ?_
                  refine zw_29s (A := 99) (B := 99) zr_131_84 (by omega) (by omega) (by decide) ?_
                  intro x90 ex90 hx90a hx90b
                  skip
                  skip
                  refine zw_14 (L' := [(2, 0), (0, a0), (1, (x86 + x89)), (9, 0), (1, x90), (9, 0), (0, (0 + f66)), (0, (((0 + 1) + 1) + 1)), (0, x75), (0, x76)]) zr_131_85 (Nat.le_of_ble_eq_true rfl) rfl ?_
                  refine zw_4 zr_131_87 rfl ?_
                  refine zw_7 zr_131_89 rfl ?_
                  refine zw_46r (s := 1) zr_131_90 rfl rfl rfl rfl ?_
                  refine zw_46r (s := 13) zr_131_93 rfl rfl rfl rfl ?_
                  refine zw_4 zr_131_96 rfl ?_
                  refine zw_48k (c := 13) (len := 4) zr_131_98 rfl rfl (by omega) (by omega) (show ((((0 + 1) + 1) + 1) : Int).toNat = 3 by omega) ef87 ?_
                  have qf87 : f87 = F13 ((((0 + 1) + 1) + 1) : Int).toNat := by rw [show ((((0 + 1) + 1) + 1) : Int).toNat = 3 by omega, ← hG13]; exact (ef87).symm
                  refine zw_16 zr_131_99 (by omega) ?_
                  refine zw_10 (L' := [(2, 0), (0, a0), (1, (x86 + x89)), (9, 0), (1, x90), (9, 0), (0, ((0 + f66) + f87)), (0, (((0 + 1) + 1) + 1)), (0, x75), (0, x76)]) zr_131_100 (Nat.le_of_ble_eq_true rfl) rfl ?_
                  have hP4 := prs_y (R := (fun c => F3 (a0.toNat * 4 + c))) (A := (fun c => F4 (a0.toNat * 4 + c))) (W := F13) (k := 4) hP3 rfl (qx75.trans (congrArg F3 (by omega))) (qx76.trans (congrArg F4 (by omega))) (qf87.trans (congrArg F13 (by omega))) (by omega) ex86 ex88 ex89 ex90 ⟨rfl, rfl⟩
                  refine zw_15 (c := 1) (L' := [(2, 0), (0, a0), (1, (x86 + x89)), (9, 0), (1, x90), (9, 0), (0, ((0 + f66) + f87)), (0, ((((0 + 1) + 1) + 1) + 1)), (0, x75), (0, x76)]) zr_131_102 rfl (by decide) (by omega) rfl ?_
                  refine zw_42 zr_131_105 ?_
                  skip
                  refine zw_4 zr_131_11 rfl ?_
                  refine zw_push zr_131_13 ?_
                  refine zw_41_3 zr_131_14 ?_ ?_
                  · intro h91
                    refine zw_7 zr_131_108 rfl ?_
                    refine zw_46r (s := 42) zr_131_109 rfl rfl rfl rfl ?_
                    refine zw_5 zr_131_112 rfl ?_
                    refine zw_6 zr_131_113 rfl ?_
                    refine zw_4 zr_131_115 rfl ?_
                    refine zw_36 zr_131_117 ?_
                    refine zw_29s (A := 9801) (B := 18) zr_131_118 (by omega) (by omega) (by decide) ?_
                    intro x92 ex92 hx92a hx92b
                    skip
                    refine zw_C zr_131_119 (Or.inl rfl) zm_38 rfl rfl ⟨Nat.le_of_ble_eq_true rfl, Nat.le_of_ble_eq_true rfl, Nat.le_of_ble_eq_true rfl, rfl, by decide⟩ (by omega) (th_38 (d := d - 1) (by omega) hI0 (a0 := (x86 + x89)) (a1 := x92)      (by omega) (by omega) ) ?_
                    rintro _ m93 ⟨rfl, hIm93, gm93, po0_m93⟩
                    have hFm93 : zFr W_131 m0 m93 := hF0.trans gm93 rfl
                    have km93_13_1 : m93 13 1 = f66 := (gm93 13 1 rfl).trans ef66
                    have km93_13_3 : m93 13 3 = f87 := (gm93 13 3 rfl).trans ef87
                    have fm93_3 : m93 3 = F3 := (funext fun k => gm93 3 k rfl).trans hG3
                    have fm93_4 : m93 4 = F4 := (funext fun k => gm93 4 k rfl).trans hG4
                    have fm93_13 : m93 13 = F13 := (funext fun k => gm93 13 k rfl).trans hG13
                    obtain ⟨f94, ef94⟩ : ∃ v, m93 42 0 = v := ⟨_, rfl⟩
                    have bf94 := hIm93.fl (c := 42) (k := 0) rfl
                    rw [ef94] at bf94
                    rw [ef94] at po0_m93
                    obtain ⟨f95, ef95⟩ : ∃ v, m93 42 1 = v := ⟨_, rfl⟩
                    have bf95 := hIm93.fl (c := 42) (k := 1) rfl
                    rw [ef95] at bf95
                    rw [ef95] at po0_m93
                    show zW E (d) 131 122 [(2, 0), (0, a0), (1, (x86 + x89)), (9, 0), (1, x90), (9, 0), (0, ((0 + f66) + f87)), (0, ((((0 + 1) + 1) + 1) + 1)), (0, x75), (0, x76)] [] m93 Q
                    have hF := prs_t hP4 ex92 po0_m93
                    refine zw_R zr_131_122 (by decide) zm_131 (v := (9, 0)) rfl ?_
                    rw [← hQ]; exact ⟨rfl, hIm93, hFm93, by rw [ef94, ef95]; exact hF⟩
                  · intro h97; omega
            · intro h98
              refine zw_5 zr_131_54 rfl ?_
              refine zw_4 zr_131_55 rfl ?_
              refine zw_36 zr_131_57 ?_
              refine zw_29n (A := 891) (B := 99) zr_131_58 (by omega) (by omega) (by decide) ?_
              intro x99 ex99 hx99a hx99b
              skip
              refine zw_6 zr_131_59 rfl ?_
              refine zw_7 zr_131_61 rfl ?_
              refine zw_46r (s := 1) zr_131_62 rfl rfl rfl rfl ?_
              refine zw_46r (s := 13) zr_131_65 rfl rfl rfl rfl ?_
              refine zw_4 zr_131_68 rfl ?_
              obtain ⟨f100, ef100⟩ : ∃ v, m0 13 2 = v := ⟨_, rfl⟩
              have bf100 : 1 ≤ m0 13 2 ∧ m0 13 2 ≤ 9 := ib_13 hI0 (by omega)
              rw [ef100] at bf100
              refine zw_48k (c := 13) (len := 4) zr_131_70 rfl rfl (by omega) (by omega) (show (((0 + 1) + 1) : Int).toNat = 2 by omega) ef100 ?_
              have qf100 : f100 = F13 (((0 + 1) + 1) : Int).toNat := by rw [show (((0 + 1) + 1) : Int).toNat = 2 by omega, ← hG13]; exact (ef100).symm
              skip
              refine zw_36 zr_131_71 ?_
              refine zw_29s (A := 99) (B := 9) zr_131_72 (by omega) (by omega) (by decide) ?_
              intro x101 ex101 hx101a hx101b
              skip
              refine zw_4 zr_131_73 rfl ?_
              refine zw_36 zr_131_75 ?_
              refine zw_29n (A := 891) (B := 99) zr_131_76 (by omega) (by omega) (by decide) ?_
              intro x102 ex102 hx102a hx102b
              skip
              refine zw_27 zr_131_77 (by omega) ?_
              refine zw_13 (L' := [(2, 0), (0, a0), (1, (x99 + x102)), (9, 0), (1, (1 * x9)), (9, 0), (0, (0 + f66)), (0, ((0 + 1) + 1)), (0, x70), (0, x71)]) zr_131_78 (Nat.le_of_ble_eq_true rfl) rfl ?_
              refine zw_6 zr_131_79 rfl ?_
              refine zw_4 zr_131_81 rfl ?_
              refine zw_36 zr_131_83 ?_
              refine zw_29s (A := 99) (B := 99) zr_131_84 (by omega) (by omega) (by decide) ?_
              intro x103 ex103 hx103a hx103b
              skip
              skip
              refine zw_14 (L' := [(2, 0), (0, a0), (1, (x99 + x102)), (9, 0), (1, x103), (9, 0), (0, (0 + f66)), (0, ((0 + 1) + 1)), (0, x70), (0, x71)]) zr_131_85 (Nat.le_of_ble_eq_true rfl) rfl ?_
              refine zw_4 zr_131_87 rfl ?_
              refine zw_7 zr_131_89 rfl ?_
              refine zw_46r (s := 1) zr_131_90 rfl rfl rfl rfl ?_
              refine zw_46r (s := 13) zr_131_93 rfl rfl rfl rfl ?_
              refine zw_4 zr_131_96 rfl ?_
              refine zw_48k (c := 13) (len := 4) zr_131_98 rfl rfl (by omega) (by omega) (show (((0 + 1) + 1) : Int).toNat = 2 by omega) ef100 ?_
              have qf100 : f100 = F13 (((0 + 1) + 1) : Int).toNat := by rw [show (((0 + 1) + 1) : Int).toNat = 2 by omega, ← hG13]; exact (ef100).symm
              refine zw_16 zr_131_99 (by omega) ?_
              refine zw_10 (L' := [(2, 0), (0, a0), (1, (x99 + x102)), (9, 0), (1, x103), (9, 0), (0, ((0 + f66) + f100)), (0, ((0 + 1) + 1)), (0, x70), (0, x71)]) zr_131_100 (Nat.le_of_ble_eq_true rfl) rfl ?_
              have hP3 := prs_y (R := (fun c => F3 (a0.toNat * 4 + c))) (A := (fun c => F4 (a0.toNat * 4 + c))) (W := F13) (k := 3) hP2 rfl (qx70.trans (congrArg F3 (by omega))) (qx71.trans (congrArg F4 (by omega))) (qf100.trans (congrArg F13 (by omega))) (by omega) ex99 ex101 ex102 ex103 ⟨rfl, rfl⟩
              refine zw_15 (c := 1) (L' := [(2, 0), (0, a0), (1, (x99 + x102)), (9, 0), (1, x103), (9, 0), (0, ((0 + f66) + f100)), (0, (((0 + 1) + 1) + 1)), (0, x70), (0, x71)]) zr_131_102 rfl (by decide) (by omega) rfl ?_
              refine zw_42 zr_131_105 ?_
              skip
              refine zw_4 zr_131_11 rfl ?_
              refine zw_push zr_131_13 ?_
              refine zw_41_3 zr_131_14 ?_ ?_
              · intro h104; omega
              · intro h105
                refine zw_7 zr_131_17 rfl ?_
                refine zw_46r (s := 1) zr_131_18 rfl rfl rfl rfl ?_
                refine zw_46r (s := 3) zr_131_21 rfl rfl rfl rfl ?_
                refine zw_3 zr_131_24 rfl ?_
                refine zw_push zr_131_25 ?_
                refine zw_18 zr_131_26 (by omega) ?_
                refine zw_4 zr_131_27 rfl ?_
                refine zw_16 zr_131_29 (by omega) ?_
                refine zw_48 (c := 3) (len := 40) zr_131_30 rfl rfl (by omega) (by omega) ?_
                intro x106 ex106
                have bx106 := ib_3 hI0 (k := (((a0 * 4) + (((0 + 1) + 1) + 1))).toNat) (by omega)
                rw [← ex106] at bx106
                have qx106 : x106 = F3 (((a0 * 4) + (((0 + 1) + 1) + 1))).toNat := by rw [← hG3]; exact ex106
                clear ex106
                skip
                refine zw_10 (L' := [(2, 0), (0, a0), (1, (x99 + x102)), (9, 0), (1, x103), (9, 0), (0, ((0 + f66) + f100)), (0, (((0 + 1) + 1) + 1)), (0, x106), (0, x71)]) zr_131_31 (Nat.le_of_ble_eq_true rfl) rfl ?_
                refine zw_7 zr_131_33 rfl ?_
                refine zw_46r (s := 1) zr_131_34 rfl rfl rfl rfl ?_
                refine zw_46r (s := 4) zr_131_37 rfl rfl rfl rfl ?_
                refine zw_3 zr_131_40 rfl ?_
                refine zw_push zr_131_41 ?_
                refine zw_18 zr_131_42 (by omega) ?_
                refine zw_4 zr_131_43 rfl ?_
                refine zw_16 zr_131_45 (by omega) ?_
                refine zw_48 (c := 4) (len := 40) zr_131_46 rfl rfl (by omega) (by omega) ?_
                intro x107 ex107
                have bx107 := ib_4 hI0 (k := (((a0 * 4) + (((0 + 1) + 1) + 1))).toNat) (by omega)
                rw [← ex107] at bx107
                have qx107 : x107 = F4 (((a0 * 4) + (((0 + 1) + 1) + 1))).toNat := by rw [← hG4]; exact ex107
                clear ex107
                skip
                skip
                refine zw_10 (L' := [(2, 0), (0, a0), (1, (x99 + x102)), (9, 0), (1, x103), (9, 0), (0, ((0 + f66) + f100)), (0, (((0 + 1) + 1) + 1)), (0, x106), (0, x107)]) zr_131_47 (Nat.le_of_ble_eq_true rfl) rfl ?_
                refine zw_4 zr_131_49 rfl ?_
                refine zw_40_5 zr_131_51 ?_ ?_
                · intro h108
                  have hP4 := prs_n (R := (fun c => F3 (a0.toNat * 4 + c))) (A := (fun c => F4 (a0.toNat * 4 + c))) (W := F13) (k := 4) hP3 rfl (qx107.trans (congrArg F4 (by omega))) (by omega)
                  refine zw_15 (c := 1) (L' := [(2, 0), (0, a0), (1, (x99 + x102)), (9, 0), (1, x103), (9, 0), (0, ((0 + f66) + f100)), (0, ((((0 + 1) + 1) + 1) + 1)), (0, x106), (0, x107)]) zr_131_102 rfl (by decide) (by omega) rfl ?_
                  refine zw_42 zr_131_105 ?_
                  skip
                  refine zw_4 zr_131_11 rfl ?_
                  refine zw_push zr_131_13 ?_
                  refine zw_41_3 zr_131_14 ?_ ?_
                  · intro h109
                    refine zw_7 zr_131_108 rfl ?_
                    refine zw_46r (s := 42) zr_131_109 rfl rfl rfl rfl ?_
                    refine zw_5 zr_131_112 rfl ?_
                    refine zw_6 zr_131_113 rfl ?_
                    refine zw_4 zr_131_115 rfl ?_
                    refine zw_36 zr_131_117 ?_
                    refine zw_29s (A := 9801) (B := 18) zr_131_118 (by omega) (by omega) (by decide) ?_
                    intro x110 ex110 hx110a hx110b
                    skip
                    refine zw_C zr_131_119 (Or.inl rfl) zm_38 rfl rfl ⟨Nat.le_of_ble_eq_true rfl, Nat.le_of_ble_eq_true rfl, Nat.le_of_ble_eq_true rfl, rfl, by decide⟩ (by omega) (th_38 (d := d - 1) (by omega) hI0 (a0 := (x99 + x102)) (a1 := x110)      (by omega) (by omega) ) ?_
                    rintro _ m111 ⟨rfl, hIm111, gm111, po0_m111⟩
                    have hFm111 : zFr W_131 m0 m111 := hF0.trans gm111 rfl
                    have km111_13_1 : m111 13 1 = f66 := (gm111 13 1 rfl).trans ef66
                    have km111_13_2 : m111 13 2 = f100 := (gm111 13 2 rfl).trans ef100
                    have fm111_3 : m111 3 = F3 := (funext fun k => gm111 3 k rfl).trans hG3
                    have fm111_4 : m111 4 = F4 := (funext fun k => gm111 4 k rfl).trans hG4
                    have fm111_13 : m111 13 = F13 := (funext fun k => gm111 13 k rfl).trans hG13
                    obtain ⟨f112, ef112⟩ : ∃ v, m111 42 0 = v := ⟨_, rfl⟩
                    have bf112 := hIm111.fl (c := 42) (k := 0) rfl
                    rw [ef112] at bf112
                    rw [ef112] at po0_m111
                    obtain ⟨f113, ef113⟩ : ∃ v, m111 42 1 = v := ⟨_, rfl⟩
                    have bf113 := hIm111.fl (c := 42) (k := 1) rfl
                    rw [ef113] at bf113
                    rw [ef113] at po0_m111
                    show zW E (d) 131 122 [(2, 0), (0, a0), (1, (x99 + x102)), (9, 0), (1, x103), (9, 0), (0, ((0 + f66) + f100)), (0, ((((0 + 1) + 1) + 1) + 1)), (0, x106), (0, x107)] [] m111 Q
                    have hF := prs_t hP4 ex110 po0_m111
                    refine zw_R zr_131_122 (by decide) zm_131 (v := (9, 0)) rfl ?_
                    rw [← hQ]; exact ⟨rfl, hIm111, hFm111, by rw [ef112, ef113]; exact hF⟩
                  · intro h115; omega
                · intro h116
                  refine zw_5 zr_131_54 rfl ?_
                  refine zw_4 zr_131_55 rfl ?_
                  refine zw_36 zr_131_57 ?_
                  refine zw_29n (A := 176418) (B := 99) zr_131_58 (by omega) (by omega) (by decide) ?_
                  intro x117 ex117 hx117a hx117b
                  skip
                  refine zw_6 zr_131_59 rfl ?_
                  refine zw_7 zr_131_61 rfl ?_
                  refine zw_46r (s := 1) zr_131_62 rfl rfl rfl rfl ?_
                  refine zw_46r (s := 13) zr_131_65 rfl rfl rfl rfl ?_
                  refine zw_4 zr_131_68 rfl ?_
                  obtain ⟨f118, ef118⟩ : ∃ v, m0 13 3 = v := ⟨_, rfl⟩
                  have bf118 : 1 ≤ m0 13 3 ∧ m0 13 3 ≤ 9 := ib_13 hI0 (by omega)
                  rw [ef118] at bf118
                  refine zw_48k (c := 13) (len := 4) zr_131_70 rfl rfl (by omega) (by omega) (show ((((0 + 1) + 1) + 1) : Int).toNat = 3 by omega) ef118 ?_
                  have qf118 : f118 = F13 ((((0 + 1) + 1) + 1) : Int).toNat := by rw [show ((((0 + 1) + 1) + 1) : Int).toNat = 3 by omega, ← hG13]; exact (ef118).symm
                  skip
                  refine zw_36 zr_131_71 ?_
                  refine zw_29s (A := 9801) (B := 9) zr_131_72 (by omega) (by omega) (by decide) ?_
                  intro x119 ex119 hx119a hx119b
                  skip
                  refine zw_4 zr_131_73 rfl ?_
                  refine zw_36 zr_131_75 ?_
                  refine zw_29n (A := 88209) (B := 99) zr_131_76 (by omega) (by omega) (by decide) ?_
                  intro x120 ex120 hx120a hx120b
                  skip
                  refine zw_27 zr_131_77 (by omega) ?_
                  refine zw_13 (L' := [(2, 0), (0, a0), (1, (x117 + x120)), (9, 0), (1, x103), (9, 0), (0, ((0 + f66) + f100)), (0, (((0 + 1) + 1) + 1)), (0, x106), (0, x107)]) zr_131_78 (Nat.le_of_ble_eq_true rfl) rfl ?_
                  refine zw_6 zr_131_79 rfl ?_
                  refine zw_4 zr_131_81 rfl ?_
                  refine zw_36 zr_131_83 ?_
                  refine zw_29s (A := 9801) (B := 99) zr_131_84 (by omega) (by omega) (by decide) ?_
                  intro x121 ex121 hx121a hx121b
                  skip
                  skip
                  refine zw_14 (L' := [(2, 0), (0, a0), (1, (x117 + x120)), (9, 0), (1, x121), (9, 0), (0, ((0 + f66) + f100)), (0, (((0 + 1) + 1) + 1)), (0, x106), (0, x107)]) zr_131_85 (Nat.le_of_ble_eq_true rfl) rfl ?_
                  refine zw_4 zr_131_87 rfl ?_
                  refine zw_7 zr_131_89 rfl ?_
                  refine zw_46r (s := 1) zr_131_90 rfl rfl rfl rfl ?_
                  refine zw_46r (s := 13) zr_131_93 rfl rfl rfl rfl ?_
                  refine zw_4 zr_131_96 rfl ?_
                  refine zw_48k (c := 13) (len := 4) zr_131_98 rfl rfl (by omega) (by omega) (show ((((0 + 1) + 1) + 1) : Int).toNat = 3 by omega) ef118 ?_
                  have qf118 : f118 = F13 ((((0 + 1) + 1) + 1) : Int).toNat := by rw [show ((((0 + 1) + 1) + 1) : Int).toNat = 3 by omega, ← hG13]; exact (ef118).symm
                  refine zw_16 zr_131_99 (by omega) ?_
                  refine zw_10 (L' := [(2, 0), (0, a0), (1, (x117 + x120)), (9, 0), (1, x121), (9, 0), (0, (((0 + f66) + f100) + f118)), (0, (((0 + 1) + 1) + 1)), (0, x106), (0, x107)]) zr_131_100 (Nat.le_of_ble_eq_true rfl) rfl ?_
                  have hP4 := prs_y (R := (fun c => F3 (a0.toNat * 4 + c))) (A := (fun c => F4 (a0.toNat * 4 + c))) (W := F13) (k := 4) hP3 rfl (qx106.trans (congrArg F3 (by omega))) (qx107.trans (congrArg F4 (by omega))) (qf118.trans (congrArg F13 (by omega))) (by omega) ex117 ex119 ex120 ex121 ⟨rfl, rfl⟩
                  refine zw_15 (c := 1) (L' := [(2, 0), (0, a0), (1, (x117 + x120)), (9, 0), (1, x121), (9, 0), (0, (((0 + f66) + f100) + f118)), (0, ((((0 + 1) + 1) + 1) + 1)), (0, x106), (0, x107)]) zr_131_102 rfl (by decide) (by omega) rfl ?_
                  refine zw_42 zr_131_105 ?_
                  skip
                  refine zw_4 zr_131_11 rfl ?_
                  refine zw_push zr_131_13 ?_
                  refine zw_41_3 zr_131_14 ?_ ?_
                  · intro h122
                    refine zw_7 zr_131_108 rfl ?_
                    refine zw_46r (s := 42) zr_131_109 rfl rfl rfl rfl ?_
                    refine zw_5 zr_131_112 rfl ?_
                    refine zw_6 zr_131_113 rfl ?_
                    refine zw_4 zr_131_115 rfl ?_
                    refine zw_36 zr_131_117 ?_
                    refine zw_29s (A := 970299) (B := 27) zr_131_118 (by omega) (by omega) (by decide) ?_
                    intro x123 ex123 hx123a hx123b
                    skip
                    refine zw_C zr_131_119 (Or.inl rfl) zm_38 rfl rfl ⟨Nat.le_of_ble_eq_true rfl, Nat.le_of_ble_eq_true rfl, Nat.le_of_ble_eq_true rfl, rfl, by decide⟩ (by omega) (th_38 (d := d - 1) (by omega) hI0 (a0 := (x117 + x120)) (a1 := x123)      (by omega) (by omega) ) ?_
                    rintro _ m124 ⟨rfl, hIm124, gm124, po0_m124⟩
                    have hFm124 : zFr W_131 m0 m124 := hF0.trans gm124 rfl
                    have km124_13_1 : m124 13 1 = f66 := (gm124 13 1 rfl).trans ef66
                    have km124_13_2 : m124 13 2 = f100 := (gm124 13 2 rfl).trans ef100
                    have km124_13_3 : m124 13 3 = f118 := (gm124 13 3 rfl).trans ef118
                    have fm124_3 : m124 3 = F3 := (funext fun k => gm124 3 k rfl).trans hG3
                    have fm124_4 : m124 4 = F4 := (funext fun k => gm124 4 k rfl).trans hG4
                    have fm124_13 : m124 13 = F13 := (funext fun k => gm124 13 k rfl).trans hG13
                    obtain ⟨f125, ef125⟩ : ∃ v, m124 42 0 = v := ⟨_, rfl⟩
                    have bf125 := hIm124.fl (c := 42) (k := 0) rfl
                    rw [ef125] at bf125
                    rw [ef125] at po0_m124
                    obtain ⟨f126, ef126⟩ : ∃ v, m124 42 1 = v := ⟨_, rfl⟩
                    have bf126 := hIm124.fl (c := 42) (k := 1) rfl
                    rw [ef126] at bf126
                    rw [ef126] at po0_m124
                    show zW E (d) 131 122 [(2, 0), (0, a0), (1, (x117 + x120)), (9, 0), (1, x121), (9, 0), (0, (((0 + f66) + f100) + f118)), (0, ((((0 + 1) + 1) + 1) + 1)), (0, x106), (0, x107)] [] m124 Q
                    have hF := prs_t hP4 ex123 po0_m124
                    refine zw_R zr_131_122 (by decide) zm_131 (v := (9, 0)) rfl ?_
                    rw [← hQ]; exact ⟨rfl, hIm124, hFm124, by rw [ef125, ef126]; exact hF⟩
                  · intro h128; omega
    · intro h129
      refine zw_5 zr_131_54 rfl ?_
      refine zw_4 zr_131_55 rfl ?_
      refine zw_36 zr_131_57 ?_
      refine zw_29 zr_131_58 (by omega) ?_
      skip
      refine zw_6 zr_131_59 rfl ?_
      refine zw_7 zr_131_61 rfl ?_
      refine zw_46r (s := 1) zr_131_62 rfl rfl rfl rfl ?_
      refine zw_46r (s := 13) zr_131_65 rfl rfl rfl rfl ?_
      refine zw_4 zr_131_68 rfl ?_
      obtain ⟨f130, ef130⟩ : ∃ v, m0 13 0 = v := ⟨_, rfl⟩
      have bf130 : 1 ≤ m0 13 0 ∧ m0 13 0 ≤ 9 := ib_13 hI0 (by omega)
      rw [ef130] at bf130
      refine zw_48k (c := 13) (len := 4) zr_131_70 rfl rfl (by omega) (by omega) (show (0 : Int).toNat = 0 by omega) ef130 ?_
      have qf130 : f130 = F13 0 := by rw [← hG13]; exact (ef130).symm
      skip
      refine zw_36 zr_131_71 ?_
      refine zw_29 zr_131_72 (by omega) ?_
      skip
      refine zw_4 zr_131_73 rfl ?_
      refine zw_36 zr_131_75 ?_
      refine zw_29n (A := 9) (B := 99) zr_131_76 (by omega) (by omega) (by decide) ?_
      intro x131 ex131 hx131a hx131b
      skip
      refine zw_27 zr_131_77 (by omega) ?_
      refine zw_13 (L' := [(2, 0), (0, a0), (1, ((0 * x4) + x131)), (9, 0), (1, 1), (9, 0), (0, 0), (0, 0), (0, x3), (0, x4)]) zr_131_78 (Nat.le_of_ble_eq_true rfl) rfl ?_
      refine zw_6 zr_131_79 rfl ?_
      refine zw_4 zr_131_81 rfl ?_
      refine zw_36 zr_131_83 ?_
      refine zw_29 zr_131_84 (by omega) ?_
      skip
      skip
      refine zw_14 (L' := [(2, 0), (0, a0), (1, ((0 * x4) + x131)), (9, 0), (1, (1 * x4)), (9, 0), (0, 0), (0, 0), (0, x3), (0, x4)]) zr_131_85 (Nat.le_of_ble_eq_true rfl) rfl ?_
      refine zw_4 zr_131_87 rfl ?_
      refine zw_7 zr_131_89 rfl ?_
      refine zw_46r (s := 1) zr_131_90 rfl rfl rfl rfl ?_
      refine zw_46r (s := 13) zr_131_93 rfl rfl rfl rfl ?_
      refine zw_4 zr_131_96 rfl ?_
      refine zw_48k (c := 13) (len := 4) zr_131_98 rfl rfl (by omega) (by omega) (show (0 : Int).toNat = 0 by omega) ef130 ?_
      have qf130 : f130 = F13 0 := by rw [← hG13]; exact (ef130).symm
      refine zw_16 zr_131_99 (by omega) ?_
      refine zw_10 (L' := [(2, 0), (0, a0), (1, ((0 * x4) + x131)), (9, 0), (1, (1 * x4)), (9, 0), (0, (0 + f130)), (0, 0), (0, x3), (0, x4)]) zr_131_100 (Nat.le_of_ble_eq_true rfl) rfl ?_
      have hP1 := prs_y (R := (fun c => F3 (a0.toNat * 4 + c))) (A := (fun c => F4 (a0.toNat * 4 + c))) (W := F13) (k := 1) hP0 rfl (qx3.trans (congrArg F3 (by omega))) (qx4.trans (congrArg F4 (by omega))) (qf130.trans (congrArg F13 (by omega))) (by omega) rfl rfl ex131 rfl ⟨rfl, rfl⟩
      refine zw_15 (c := 1) (L' := [(2, 0), (0, a0), (1, ((0 * x4) + x131)), (9, 0), (1, (1 * x4)), (9, 0), (0, (0 + f130)), (0, (0 + 1)), (0, x3), (0, x4)]) zr_131_102 rfl (by decide) (by omega) rfl ?_
      refine zw_42 zr_131_105 ?_
      skip
      refine zw_4 zr_131_11 rfl ?_
      refine zw_push zr_131_13 ?_
      refine zw_41_3 zr_131_14 ?_ ?_
      · intro h132; omega
      · intro h133
        refine zw_7 zr_131_17 rfl ?_
        refine zw_46r (s := 1) zr_131_18 rfl rfl rfl rfl ?_
        refine zw_46r (s := 3) zr_131_21 rfl rfl rfl rfl ?_
        refine zw_3 zr_131_24 rfl ?_
        refine zw_push zr_131_25 ?_
        refine zw_18 zr_131_26 (by omega) ?_
        refine zw_4 zr_131_27 rfl ?_
        refine zw_16 zr_131_29 (by omega) ?_
        refine zw_48 (c := 3) (len := 40) zr_131_30 rfl rfl (by omega) (by omega) ?_
        intro x134 ex134
        have bx134 := ib_3 hI0 (k := (((a0 * 4) + (0 + 1))).toNat) (by omega)
        rw [← ex134] at bx134
        have qx134 : x134 = F3 (((a0 * 4) + (0 + 1))).toNat := by rw [← hG3]; exact ex134
        clear ex134
        skip
        refine zw_10 (L' := [(2, 0), (0, a0), (1, ((0 * x4) + x131)), (9, 0), (1, (1 * x4)), (9, 0), (0, (0 + f130)), (0, (0 + 1)), (0, x134), (0, x4)]) zr_131_31 (Nat.le_of_ble_eq_true rfl) rfl ?_
        refine zw_7 zr_131_33 rfl ?_
        refine zw_46r (s := 1) zr_131_34 rfl rfl rfl rfl ?_
        refine zw_46r (s := 4) zr_131_37 rfl rfl rfl rfl ?_
        refine zw_3 zr_131_40 rfl ?_
        refine zw_push zr_131_41 ?_
        refine zw_18 zr_131_42 (by omega) ?_
        refine zw_4 zr_131_43 rfl ?_
        refine zw_16 zr_131_45 (by omega) ?_
        refine zw_48 (c := 4) (len := 40) zr_131_46 rfl rfl (by omega) (by omega) ?_
        intro x135 ex135
        have bx135 := ib_4 hI0 (k := (((a0 * 4) + (0 + 1))).toNat) (by omega)
        rw [← ex135] at bx135
        have qx135 : x135 = F4 (((a0 * 4) + (0 + 1))).toNat := by rw [← hG4]; exact ex135
        clear ex135
        skip
        skip
        refine zw_10 (L' := [(2, 0), (0, a0), (1, ((0 * x4) + x131)), (9, 0), (1, (1 * x4)), (9, 0), (0, (0 + f130)), (0, (0 + 1)), (0, x134), (0, x135)]) zr_131_47 (Nat.le_of_ble_eq_true rfl) rfl ?_
        refine zw_4 zr_131_49 rfl ?_
        refine zw_40_5 zr_131_51 ?_ ?_
        · intro h136
          have hP2 := prs_n (R := (fun c => F3 (a0.toNat * 4 + c))) (A := (fun c => F4 (a0.toNat * 4 + c))) (W := F13) (k := 2) hP1 rfl (qx135.trans (congrArg F4 (by omega))) (by omega)
          refine zw_15 (c := 1) (L' := [(2, 0), (0, a0), (1, ((0 * x4) + x131)), (9, 0), (1, (1 * x4)), (9, 0), (0, (0 + f130)), (0, ((0 + 1) + 1)), (0, x134), (0, x135)]) zr_131_102 rfl (by decide) (by omega) rfl ?_
          refine zw_42 zr_131_105 ?_
          skip
          refine zw_4 zr_131_11 rfl ?_
          refine zw_push zr_131_13 ?_
          refine zw_41_3 zr_131_14 ?_ ?_
          · intro h137; omega
          · intro h138
            refine zw_7 zr_131_17 rfl ?_
            refine zw_46r (s := 1) zr_131_18 rfl rfl rfl rfl ?_
            refine zw_46r (s := 3) zr_131_21 rfl rfl rfl rfl ?_
            refine zw_3 zr_131_24 rfl ?_
            refine zw_push zr_131_25 ?_
            refine zw_18 zr_131_26 (by omega) ?_
            refine zw_4 zr_131_27 rfl ?_
            refine zw_16 zr_131_29 (by omega) ?_
            refine zw_48 (c := 3) (len := 40) zr_131_30 rfl rfl (by omega) (by omega) ?_
            intro x139 ex139
            have bx139 := ib_3 hI0 (k := (((a0 * 4) + ((0 + 1) + 1))).toNat) (by omega)
            rw [← ex139] at bx139
            have qx139 : x139 = F3 (((a0 * 4) + ((0 + 1) + 1))).toNat := by rw [← hG3]; exact ex139
            clear ex139
            skip
            refine zw_10 (L' := [(2, 0), (0, a0), (1, ((0 * x4) + x131)), (9, 0), (1, (1 * x4)), (9, 0), (0, (0 + f130)), (0, ((0 + 1) + 1)), (0, x139), (0, x135)]) zr_131_31 (Nat.le_of_ble_eq_true rfl) rfl ?_
            refine zw_7 zr_131_33 rfl ?_
            refine zw_46r (s := 1) zr_131_34 rfl rfl rfl rfl ?_
            refine zw_46r (s := 4) zr_131_37 rfl rfl rfl rfl ?_
            refine zw_3 zr_131_40 rfl ?_
            refine zw_push zr_131_41 ?_
            refine zw_18 zr_131_42 (by omega) ?_
            refine zw_4 zr_131_43 rfl ?_
            refine zw_16 zr_131_45 (by omega) ?_
            refine zw_48 (c := 4) (len := 40) zr_131_46 rfl rfl (by omega) (by omega) ?_
            intro x140 ex140
            have bx140 := ib_4 hI0 (k := (((a0 * 4) + ((0 + 1) + 1))).toNat) (by omega)
            rw [← ex140] at bx140
            have qx140 : x140 = F4 (((a0 * 4) + ((0 + 1) + 1))).toNat := by rw [← hG4]; exact ex140
            clear ex140
            skip
            skip
            refine zw_10 (L' := [(2, 0), (0, a0), (1, ((0 * x4) + x131)), (9, 0), (1, (1 * x4)), (9, 0), (0, (0 + f130)), (0, ((0 + 1) + 1)), (0, x139), (0, x140)]) zr_131_47 (Nat.le_of_ble_eq_true rfl) rfl ?_
            refine zw_4 zr_131_49 rfl ?_
            refine zw_40_5 zr_131_51 ?_ ?_
            · intro h141
              have hP3 := prs_n (R := (fun c => F3 (a0.toNat * 4 + c))) (A := (fun c => F4 (a0.toNat * 4 + c))) (W := F13) (k := 3) hP2 rfl (qx140.trans (congrArg F4 (by omega))) (by omega)
              refine zw_15 (c := 1) (L' := [(2, 0), (0, a0), (1, ((0 * x4) + x131)), (9, 0), (1, (1 * x4)), (9, 0), (0, (0 + f130)), (0, (((0 + 1) + 1) + 1)), (0, x139), (0, x140)]) zr_131_102 rfl (by decide) (by omega) rfl ?_
              refine zw_42 zr_131_105 ?_
              skip
              refine zw_4 zr_131_11 rfl ?_
              refine zw_push zr_131_13 ?_
              refine zw_41_3 zr_131_14 ?_ ?_
              · intro h142; omega
              · intro h143
                refine zw_7 zr_131_17 rfl ?_
                refine zw_46r (s := 1) zr_131_18 rfl rfl rfl rfl ?_
                refine zw_46r (s := 3) zr_131_21 rfl rfl rfl rfl ?_
                refine zw_3 zr_131_24 rfl ?_
                refine zw_push zr_131_25 ?_
                refine zw_18 zr_131_26 (by omega) ?_
                refine zw_4 zr_131_27 rfl ?_
                refine zw_16 zr_131_29 (by omega) ?_
                refine zw_48 (c := 3) (len := 40) zr_131_30 rfl rfl (by omega) (by omega) ?_
                intro x144 ex144
                have bx144 := ib_3 hI0 (k := (((a0 * 4) + (((0 + 1) + 1) + 1))).toNat) (by omega)
                rw [← ex144] at bx144
                have qx144 : x144 = F3 (((a0 * 4) + (((0 + 1) + 1) + 1))).toNat := by rw [← hG3]; exact ex144
                clear ex144
                skip
                refine zw_10 (L' := [(2, 0), (0, a0), (1, ((0 * x4) + x131)), (9, 0), (1, (1 * x4)), (9, 0), (0, (0 + f130)), (0, (((0 + 1) + 1) + 1)), (0, x144), (0, x140)]) zr_131_31 (Nat.le_of_ble_eq_true rfl) rfl ?_
                refine zw_7 zr_131_33 rfl ?_
                refine zw_46r (s := 1) zr_131_34 rfl rfl rfl rfl ?_
                refine zw_46r (s := 4) zr_131_37 rfl rfl rfl rfl ?_
                refine zw_3 zr_131_40 rfl ?_
                refine zw_push zr_131_41 ?_
                refine zw_18 zr_131_42 (by omega) ?_
                refine zw_4 zr_131_43 rfl ?_
                refine zw_16 zr_131_45 (by omega) ?_
                refine zw_48 (c := 4) (len := 40) zr_131_46 rfl rfl (by omega) (by omega) ?_
                intro x145 ex145
                have bx145 := ib_4 hI0 (k := (((a0 * 4) + (((0 + 1) + 1) + 1))).toNat) (by omega)
                rw [← ex145] at bx145
                have qx145 : x145 = F4 (((a0 * 4) + (((0 + 1) + 1) + 1))).toNat := by rw [← hG4]; exact ex145
                clear ex145
                skip
                skip
                refine zw_10 (L' := [(2, 0), (0, a0), (1, ((0 * x4) + x131)), (9, 0), (1, (1 * x4)), (9, 0), (0, (0 + f130)), (0, (((0 + 1) + 1) + 1)), (0, x144), (0, x145)]) zr_131_47 (Nat.le_of_ble_eq_true rfl) rfl ?_
                refine zw_4 zr_131_49 rfl ?_
                refine zw_40_5 zr_131_51 ?_ ?_
                · intro h146
                  have hP4 := prs_n (R := (fun c => F3 (a0.toNat * 4 + c))) (A := (fun c => F4 (a0.toNat * 4 + c))) (W := F13) (k := 4) hP3 rfl (qx145.trans (congrArg F4 (by omega))) (by omega)
                  refine zw_15 (c := 1) (L' := [(2, 0), (0, a0), (1, ((0 * x4) + x131)), (9, 0), (1, (1 * x4)), (9, 0), (0, (0 + f130)), (0, ((((0 + 1) + 1) + 1) + 1)), (0, x144), (0, x145)]) zr_131_102 rfl (by decide) (by omega) rfl ?_
                  refine zw_42 zr_131_105 ?_
                  skip
                  refine zw_4 zr_131_11 rfl ?_
                  refine zw_push zr_131_13 ?_
                  refine zw_41_3 zr_131_14 ?_ ?_
                  · intro h147
                    refine zw_7 zr_131_108 rfl ?_
                    refine zw_46r (s := 42) zr_131_109 rfl rfl rfl rfl ?_
                    refine zw_5 zr_131_112 rfl ?_
                    refine zw_6 zr_131_113 rfl ?_
                    refine zw_4 zr_131_115 rfl ?_
                    refine zw_36 zr_131_117 ?_
                    refine zw_29s (A := 99) (B := 9) zr_131_118 (by omega) (by omega) (by decide) ?_
                    intro x148 ex148 hx148a hx148b
                    skip
                    refine zw_C zr_131_119 (Or.inl rfl) zm_38 rfl rfl ⟨Nat.le_of_ble_eq_true rfl, Nat.le_of_ble_eq_true rfl, Nat.le_of_ble_eq_true rfl, rfl, by decide⟩ (by omega) (th_38 (d := d - 1) (by omega) hI0 (a0 := ((0 * x4) + x131)) (a1 := x148)      (by omega) (by omega) ) ?_
                    rintro _ m149 ⟨rfl, hIm149, gm149, po0_m149⟩
                    have hFm149 : zFr W_131 m0 m149 := hF0.trans gm149 rfl
                    have km149_13_0 : m149 13 0 = f130 := (gm149 13 0 rfl).trans ef130
                    have fm149_3 : m149 3 = F3 := (funext fun k => gm149 3 k rfl).trans hG3
                    have fm149_4 : m149 4 = F4 := (funext fun k => gm149 4 k rfl).trans hG4
                    have fm149_13 : m149 13 = F13 := (funext fun k => gm149 13 k rfl).trans hG13
                    obtain ⟨f150, ef150⟩ : ∃ v, m149 42 0 = v := ⟨_, rfl⟩
                    have bf150 := hIm149.fl (c := 42) (k := 0) rfl
                    rw [ef150] at bf150
                    rw [ef150] at po0_m149
                    obtain ⟨f151, ef151⟩ : ∃ v, m149 42 1 = v := ⟨_, rfl⟩
                    have bf151 := hIm149.fl (c := 42) (k := 1) rfl
                    rw [ef151] at bf151
                    rw [ef151] at po0_m149
                    show zW E (d) 131 122 [(2, 0), (0, a0), (1, ((0 * x4) + x131)), (9, 0), (1, (1 * x4)), (9, 0), (0, (0 + f130)), (0, ((((0 + 1) + 1) + 1) + 1)), (0, x144), (0, x145)] [] m149 Q
                    have hF := prs_t hP4 ex148 po0_m149
                    refine zw_R zr_131_122 (by decide) zm_131 (v := (9, 0)) rfl ?_
                    rw [← hQ]; exact ⟨rfl, hIm149, hFm149, by rw [ef150, ef151]; exact hF⟩
                  · intro h153; omega
                · intro h154
                  refine zw_5 zr_131_54 rfl ?_
                  refine zw_4 zr_131_55 rfl ?_
                  refine zw_36 zr_131_57 ?_
                  refine zw_29n (A := 891) (B := 99) zr_131_58 (by omega) (by omega) (by decide) ?_
                  intro x155 ex155 hx155a hx155b
                  skip
                  refine zw_6 zr_131_59 rfl ?_
                  refine zw_7 zr_131_61 rfl ?_
                  refine zw_46r (s := 1) zr_131_62 rfl rfl rfl rfl ?_
                  refine zw_46r (s := 13) zr_131_65 rfl rfl rfl rfl ?_
                  refine zw_4 zr_131_68 rfl ?_
                  obtain ⟨f156, ef156⟩ : ∃ v, m0 13 3 = v := ⟨_, rfl⟩
                  have bf156 : 1 ≤ m0 13 3 ∧ m0 13 3 ≤ 9 := ib_13 hI0 (by omega)
                  rw [ef156] at bf156
                  refine zw_48k (c := 13) (len := 4) zr_131_70 rfl rfl (by omega) (by omega) (show ((((0 + 1) + 1) + 1) : Int).toNat = 3 by omega) ef156 ?_
                  have qf156 : f156 = F13 ((((0 + 1) + 1) + 1) : Int).toNat := by rw [show ((((0 + 1) + 1) + 1) : Int).toNat = 3 by omega, ← hG13]; exact (ef156).symm
                  skip
                  refine zw_36 zr_131_71 ?_
                  refine zw_29s (A := 99) (B := 9) zr_131_72 (by omega) (by omega) (by decide) ?_
                  intro x157 ex157 hx157a hx157b
                  skip
                  refine zw_4 zr_131_73 rfl ?_
                  refine zw_36 zr_131_75 ?_
                  refine zw_29n (A := 891) (B := 99) zr_131_76 (by omega) (by omega) (by decide) ?_
                  intro x158 ex158 hx158a hx158b
                  skip
                  refine zw_27 zr_131_77 (by omega) ?_
                  refine zw_13 (L' := [(2, 0), (0, a0), (1, (x155 + x158)), (9, 0), (1, (1 * x4)), (9, 0), (0, (0 + f130)), (0, (((0 + 1) + 1) + 1)), (0, x144), (0, x145)]) zr_131_78 (Nat.le_of_ble_eq_true rfl) rfl ?_
                  refine zw_6 zr_131_79 rfl ?_
                  refine zw_4 zr_131_81 rfl ?_
                  refine zw_36 zr_131_83 ?_
                  refine zw_29s (A := 99) (B := 99) zr_131_84 (by omega) (by omega) (by decide) ?_
                  intro x159 ex159 hx159a hx159b
                  skip
                  skip
                  refine zw_14 (L' := [(2, 0), (0, a0), (1, (x155 + x158)), (9, 0), (1, x159), (9, 0), (0, (0 + f130)), (0, (((0 + 1) + 1) + 1)), (0, x144), (0, x145)]) zr_131_85 (Nat.le_of_ble_eq_true rfl) rfl ?_
                  refine zw_4 zr_131_87 rfl ?_
                  refine zw_7 zr_131_89 rfl ?_
                  refine zw_46r (s := 1) zr_131_90 rfl rfl rfl rfl ?_
                  refine zw_46r (s := 13) zr_131_93 rfl rfl rfl rfl ?_
                  refine zw_4 zr_131_96 rfl ?_
                  refine zw_48k (c := 13) (len := 4) zr_131_98 rfl rfl (by omega) (by omega) (show ((((0 + 1) + 1) + 1) : Int).toNat = 3 by omega) ef156 ?_
                  have qf156 : f156 = F13 ((((0 + 1) + 1) + 1) : Int).toNat := by rw [show ((((0 + 1) + 1) + 1) : Int).toNat = 3 by omega, ← hG13]; exact (ef156).symm
                  refine zw_16 zr_131_99 (by omega) ?_
                  refine zw_10 (L' := [(2, 0), (0, a0), (1, (x155 + x158)), (9, 0), (1, x159), (9, 0), (0, ((0 + f130) + f156)), (0, (((0 + 1) + 1) + 1)), (0, x144), (0, x145)]) zr_131_100 (Nat.le_of_ble_eq_true rfl) rfl ?_
                  have hP4 := prs_y (R := (fun c => F3 (a0.toNat * 4 + c))) (A := (fun c => F4 (a0.toNat * 4 + c))) (W := F13) (k := 4) hP3 rfl (qx144.trans (congrArg F3 (by omega))) (qx145.trans (congrArg F4 (by omega))) (qf156.trans (congrArg F13 (by omega))) (by omega) ex155 ex157 ex158 ex159 ⟨rfl, rfl⟩
                  refine zw_15 (c := 1) (L' := [(2, 0), (0, a0), (1, (x155 + x158)), (9, 0), (1, x159), (9, 0), (0, ((0 + f130) + f156)), (0, ((((0 + 1) + 1) + 1) + 1)), (0, x144), (0, x145)]) zr_131_102 rfl (by decide) (by omega) rfl ?_
                  refine zw_42 zr_131_105 ?_
                  skip
                  refine zw_4 zr_131_11 rfl ?_
                  refine zw_push zr_131_13 ?_
                  refine zw_41_3 zr_131_14 ?_ ?_
                  · intro h160
                    refine zw_7 zr_131_108 rfl ?_
                    refine zw_46r (s := 42) zr_131_109 rfl rfl rfl rfl ?_
                    refine zw_5 zr_131_112 rfl ?_
                    refine zw_6 zr_131_113 rfl ?_
                    refine zw_4 zr_131_115 rfl ?_
                    refine zw_36 zr_131_117 ?_
                    refine zw_29s (A := 9801) (B := 18) zr_131_118 (by omega) (by omega) (by decide) ?_
                    intro x161 ex161 hx161a hx161b
                    skip
                    refine zw_C zr_131_119 (Or.inl rfl) zm_38 rfl rfl ⟨Nat.le_of_ble_eq_true rfl, Nat.le_of_ble_eq_true rfl, Nat.le_of_ble_eq_true rfl, rfl, by decide⟩ (by omega) (th_38 (d := d - 1) (by omega) hI0 (a0 := (x155 + x158)) (a1 := x161)      (by omega) (by omega) ) ?_
                    rintro _ m162 ⟨rfl, hIm162, gm162, po0_m162⟩
                    have hFm162 : zFr W_131 m0 m162 := hF0.trans gm162 rfl
                    have km162_13_0 : m162 13 0 = f130 := (gm162 13 0 rfl).trans ef130
                    have km162_13_3 : m162 13 3 = f156 := (gm162 13 3 rfl).trans ef156
                    have fm162_3 : m162 3 = F3 := (funext fun k => gm162 3 k rfl).trans hG3
                    have fm162_4 : m162 4 = F4 := (funext fun k => gm162 4 k rfl).trans hG4
                    have fm162_13 : m162 13 = F13 := (funext fun k => gm162 13 k rfl).trans hG13
                    obtain ⟨f163, ef163⟩ : ∃ v, m162 42 0 = v := ⟨_, rfl⟩
                    have bf163 := hIm162.fl (c := 42) (k := 0) rfl
                    rw [ef163] at bf163
                    rw [ef163] at po0_m162
                    obtain ⟨f164, ef164⟩ : ∃ v, m162 42 1 = v := ⟨_, rfl⟩
                    have bf164 := hIm162.fl (c := 42) (k := 1) rfl
                    rw [ef164] at bf164
                    rw [ef164] at po0_m162
                    show zW E (d) 131 122 [(2, 0), (0, a0), (1, (x155 + x158)), (9, 0), (1, x159), (9, 0), (0, ((0 + f130) + f156)), (0, ((((0 + 1) + 1) + 1) + 1)), (0, x144), (0, x145)] [] m162 Q
                    have hF := prs_t hP4 ex161 po0_m162
                    refine zw_R zr_131_122 (by decide) zm_131 (v := (9, 0)) rfl ?_
                    rw [← hQ]; exact ⟨rfl, hIm162, hFm162, by rw [ef163, ef164]; exact hF⟩
                  · intro h166; omega
            · intro h167
              refine zw_5 zr_131_54 rfl ?_
              refine zw_4 zr_131_55 rfl ?_
              refine zw_36 zr_131_57 ?_
              refine zw_29n (A := 891) (B := 99) zr_131_58 (by omega) (by omega) (by decide) ?_
              intro x168 ex168 hx168a hx168b
              skip
              refine zw_6 zr_131_59 rfl ?_
              refine zw_7 zr_131_61 rfl ?_
              refine zw_46r (s := 1) zr_131_62 rfl rfl rfl rfl ?_
              refine zw_46r (s := 13) zr_131_65 rfl rfl rfl rfl ?_
              refine zw_4 zr_131_68 rfl ?_
              obtain ⟨f169, ef169⟩ : ∃ v, m0 13 2 = v := ⟨_, rfl⟩
              have bf169 : 1 ≤ m0 13 2 ∧ m0 13 2 ≤ 9 := ib_13 hI0 (by omega)
              rw [ef169] at bf169
              refine zw_48k (c := 13) (len := 4) zr_131_70 rfl rfl (by omega) (by omega) (show (((0 + 1) + 1) : Int).toNat = 2 by omega) ef169 ?_
              have qf169 : f169 = F13 (((0 + 1) + 1) : Int).toNat := by rw [show (((0 + 1) + 1) : Int).toNat = 2 by omega, ← hG13]; exact (ef169).symm
              skip
              refine zw_36 zr_131_71 ?_
              refine zw_29s (A := 99) (B := 9) zr_131_72 (by omega) (by omega) (by decide) ?_
              intro x170 ex170 hx170a hx170b
              skip
              refine zw_4 zr_131_73 rfl ?_
              refine zw_36 zr_131_75 ?_
              refine zw_29n (A := 891) (B := 99) zr_131_76 (by omega) (by omega) (by decide) ?_
              intro x171 ex171 hx171a hx171b
              skip
              refine zw_27 zr_131_77 (by omega) ?_
              refine zw_13 (L' := [(2, 0), (0, a0), (1, (x168 + x171)), (9, 0), (1, (1 * x4)), (9, 0), (0, (0 + f130)), (0, ((0 + 1) + 1)), (0, x139), (0, x140)]) zr_131_78 (Nat.le_of_ble_eq_true rfl) rfl ?_
              refine zw_6 zr_131_79 rfl ?_
              refine zw_4 zr_131_81 rfl ?_
              refine zw_36 zr_131_83 ?_
              refine zw_29s (A := 99) (B := 99) zr_131_84 (by omega) (by omega) (by decide) ?_
              intro x172 ex172 hx172a hx172b
              skip
              skip
              refine zw_14 (L' := [(2, 0), (0, a0), (1, (x168 + x171)), (9, 0), (1, x172), (9, 0), (0, (0 + f130)), (0, ((0 + 1) + 1)), (0, x139), (0, x140)]) zr_131_85 (Nat.le_of_ble_eq_true rfl) rfl ?_
              refine zw_4 zr_131_87 rfl ?_
              refine zw_7 zr_131_89 rfl ?_
              refine zw_46r (s := 1) zr_131_90 rfl rfl rfl rfl ?_
              refine zw_46r (s := 13) zr_131_93 rfl rfl rfl rfl ?_
              refine zw_4 zr_131_96 rfl ?_
              refine zw_48k (c := 13) (len := 4) zr_131_98 rfl rfl (by omega) (by omega) (show (((0 + 1) + 1) : Int).toNat = 2 by omega) ef169 ?_
              have qf169 : f169 = F13 (((0 + 1) + 1) : Int).toNat := by rw [show (((0 + 1) + 1) : Int).toNat = 2 by omega, ← hG13]; exact (ef169).symm
              refine zw_16 zr_131_99 (by omega) ?_
              refine zw_10 (L' := [(2, 0), (0, a0), (1, (x168 + x171)), (9, 0), (1, x172), (9, 0), (0, ((0 + f130) + f169)), (0, ((0 + 1) + 1)), (0, x139), (0, x140)]) zr_131_100 (Nat.le_of_ble_eq_true rfl) rfl ?_
              have hP3 := prs_y (R := (fun c => F3 (a0.toNat * 4 + c))) (A := (fun c => F4 (a0.toNat * 4 + c))) (W := F13) (k := 3) hP2 rfl (qx139.trans (congrArg F3 (by omega))) (qx140.trans (congrArg F4 (by omega))) (qf169.trans (congrArg F13 (by omega))) (by omega) ex168 ex170 ex171 ex172 ⟨rfl, rfl⟩
              refine zw_15 (c := 1) (L' := [(2, 0), (0, a0), (1, (x168 + x171)), (9, 0), (1, x172), (9, 0), (0, ((0 + f130) + f169)), (0, (((0 + 1) + 1) + 1)), (0, x139), (0, x140)]) zr_131_102 rfl (by decide) (by omega) rfl ?_
              refine zw_42 zr_131_105 ?_
              skip
              refine zw_4 zr_131_11 rfl ?_
              refine zw_push zr_131_13 ?_
              refine zw_41_3 zr_131_14 ?_ ?_
              · intro h173; omega
              · intro h174
                refine zw_7 zr_131_17 rfl ?_
                refine zw_46r (s := 1) zr_131_18 rfl rfl rfl rfl ?_
                refine zw_46r (s := 3) zr_131_21 rfl rfl rfl rfl ?_
                refine zw_3 zr_131_24 rfl ?_
                refine zw_push zr_131_25 ?_
                refine zw_18 zr_131_26 (by omega) ?_
                refine zw_4 zr_131_27 rfl ?_
                refine zw_16 zr_131_29 (by omega) ?_
                refine zw_48 (c := 3) (len := 40) zr_131_30 rfl rfl (by omega) (by omega) ?_
                intro x175 ex175
                have bx175 := ib_3 hI0 (k := (((a0 * 4) + (((0 + 1) + 1) + 1))).toNat) (by omega)
                rw [← ex175] at bx175
                have qx175 : x175 = F3 (((a0 * 4) + (((0 + 1) + 1) + 1))).toNat := by rw [← hG3]; exact ex175
                clear ex175
                skip
                refine zw_10 (L' := [(2, 0), (0, a0), (1, (x168 + x171)), (9, 0), (1, x172), (9, 0), (0, ((0 + f130) + f169)), (0, (((0 + 1) + 1) + 1)), (0, x175), (0, x140)]) zr_131_31 (Nat.le_of_ble_eq_true rfl) rfl ?_
                refine zw_7 zr_131_33 rfl ?_
                refine zw_46r (s := 1) zr_131_34 rfl rfl rfl rfl ?_
                refine zw_46r (s := 4) zr_131_37 rfl rfl rfl rfl ?_
                refine zw_3 zr_131_40 rfl ?_
                refine zw_push zr_131_41 ?_
                refine zw_18 zr_131_42 (by omega) ?_
                refine zw_4 zr_131_43 rfl ?_
                refine zw_16 zr_131_45 (by omega) ?_
                refine zw_48 (c := 4) (len := 40) zr_131_46 rfl rfl (by omega) (by omega) ?_
                intro x176 ex176
                have bx176 := ib_4 hI0 (k := (((a0 * 4) + (((0 + 1) + 1) + 1))).toNat) (by omega)
                rw [← ex176] at bx176
                have qx176 : x176 = F4 (((a0 * 4) + (((0 + 1) + 1) + 1))).toNat := by rw [← hG4]; exact ex176
                clear ex176
                skip
                skip
                refine zw_10 (L' := [(2, 0), (0, a0), (1, (x168 + x171)), (9, 0), (1, x172), (9, 0), (0, ((0 + f130) + f169)), (0, (((0 + 1) + 1) + 1)), (0, x175), (0, x176)]) zr_131_47 (Nat.le_of_ble_eq_true rfl) rfl ?_
                refine zw_4 zr_131_49 rfl ?_
                refine zw_40_5 zr_131_51 ?_ ?_
                · intro h177
                  have hP4 := prs_n (R := (fun c => F3 (a0.toNat * 4 + c))) (A := (fun c => F4 (a0.toNat * 4 + c))) (W := F13) (k := 4) hP3 rfl (qx176.trans (congrArg F4 (by omega))) (by omega)
                  refine zw_15 (c := 1) (L' := [(2, 0), (0, a0), (1, (x168 + x171)), (9, 0), (1, x172), (9, 0), (0, ((0 + f130) + f169)), (0, ((((0 + 1) + 1) + 1) + 1)), (0, x175), (0, x176)]) zr_131_102 rfl (by decide) (by omega) rfl ?_
                  refine zw_42 zr_131_105 ?_
                  skip
                  refine zw_4 zr_131_11 rfl ?_
                  refine zw_push zr_131_13 ?_
                  refine zw_41_3 zr_131_14 ?_ ?_
                  · intro h178
                    refine zw_7 zr_131_108 rfl ?_
                    refine zw_46r (s := 42) zr_131_109 rfl rfl rfl rfl ?_
                    refine zw_5 zr_131_112 rfl ?_
                    refine zw_6 zr_131_113 rfl ?_
                    refine zw_4 zr_131_115 rfl ?_
                    refine zw_36 zr_131_117 ?_
                    refine zw_29s (A := 9801) (B := 18) zr_131_118 (by omega) (by omega) (by decide) ?_
                    intro x179 ex179 hx179a hx179b
                    skip
                    refine zw_C zr_131_119 (Or.inl rfl) zm_38 rfl rfl ⟨Nat.le_of_ble_eq_true rfl, Nat.le_of_ble_eq_true rfl, Nat.le_of_ble_eq_true rfl, rfl, by decide⟩ (by omega) (th_38 (d := d - 1) (by omega) hI0 (a0 := (x168 + x171)) (a1 := x179)      (by omega) (by omega) ) ?_
                    rintro _ m180 ⟨rfl, hIm180, gm180, po0_m180⟩
                    have hFm180 : zFr W_131 m0 m180 := hF0.trans gm180 rfl
                    have km180_13_0 : m180 13 0 = f130 := (gm180 13 0 rfl).trans ef130
                    have km180_13_2 : m180 13 2 = f169 := (gm180 13 2 rfl).trans ef169
                    have fm180_3 : m180 3 = F3 := (funext fun k => gm180 3 k rfl).trans hG3
                    have fm180_4 : m180 4 = F4 := (funext fun k => gm180 4 k rfl).trans hG4
                    have fm180_13 : m180 13 = F13 := (funext fun k => gm180 13 k rfl).trans hG13
                    obtain ⟨f181, ef181⟩ : ∃ v, m180 42 0 = v := ⟨_, rfl⟩
                    have bf181 := hIm180.fl (c := 42) (k := 0) rfl
                    rw [ef181] at bf181
                    rw [ef181] at po0_m180
                    obtain ⟨f182, ef182⟩ : ∃ v, m180 42 1 = v := ⟨_, rfl⟩
                    have bf182 := hIm180.fl (c := 42) (k := 1) rfl
                    rw [ef182] at bf182
                    rw [ef182] at po0_m180
                    show zW E (d) 131 122 [(2, 0), (0, a0), (1, (x168 + x171)), (9, 0), (1, x172), (9, 0), (0, ((0 + f130) + f169)), (0, ((((0 + 1) + 1) + 1) + 1)), (0, x175), (0, x176)] [] m180 Q
                    have hF := prs_t hP4 ex179 po0_m180
                    refine zw_R zr_131_122 (by decide) zm_131 (v := (9, 0)) rfl ?_
                    rw [← hQ]; exact ⟨rfl, hIm180, hFm180, by rw [ef181, ef182]; exact hF⟩
                  · intro h184; omega
                · intro h185
                  refine zw_5 zr_131_54 rfl ?_
                  refine zw_4 zr_131_55 rfl ?_
                  refine zw_36 zr_131_57 ?_
                  refine zw_29n (A := 176418) (B := 99) zr_131_58 (by omega) (by omega) (by decide) ?_
                  intro x186 ex186 hx186a hx186b
                  skip
                  refine zw_6 zr_131_59 rfl ?_
                  refine zw_7 zr_131_61 rfl ?_
                  refine zw_46r (s := 1) zr_131_62 rfl rfl rfl rfl ?_
                  refine zw_46r (s := 13) zr_131_65 rfl rfl rfl rfl ?_
                  refine zw_4 zr_131_68 rfl ?_
                  obtain ⟨f187, ef187⟩ : ∃ v, m0 13 3 = v := ⟨_, rfl⟩
                  have bf187 : 1 ≤ m0 13 3 ∧ m0 13 3 ≤ 9 := ib_13 hI0 (by omega)
                  rw [ef187] at bf187
                  refine zw_48k (c := 13) (len := 4) zr_131_70 rfl rfl (by omega) (by omega) (show ((((0 + 1) + 1) + 1) : Int).toNat = 3 by omega) ef187 ?_
                  have qf187 : f187 = F13 ((((0 + 1) + 1) + 1) : Int).toNat := by rw [show ((((0 + 1) + 1) + 1) : Int).toNat = 3 by omega, ← hG13]; exact (ef187).symm
                  skip
                  refine zw_36 zr_131_71 ?_
                  refine zw_29s (A := 9801) (B := 9) zr_131_72 (by omega) (by omega) (by decide) ?_
                  intro x188 ex188 hx188a hx188b
                  skip
                  refine zw_4 zr_131_73 rfl ?_
                  refine zw_36 zr_131_75 ?_
                  refine zw_29n (A := 88209) (B := 99) zr_131_76 (by omega) (by omega) (by decide) ?_
                  intro x189 ex189 hx189a hx189b
                  skip
                  refine zw_27 zr_131_77 (by omega) ?_
                  refine zw_13 (L' := [(2, 0), (0, a0), (1, (x186 + x189)), (9, 0), (1, x172), (9, 0), (0, ((0 + f130) + f169)), (0, (((0 + 1) + 1) + 1)), (0, x175), (0, x176)]) zr_131_78 (Nat.le_of_ble_eq_true rfl) rfl ?_
                  refine zw_6 zr_131_79 rfl ?_
                  refine zw_4 zr_131_81 rfl ?_
                  refine zw_36 zr_131_83 ?_
                  refine zw_29s (A := 9801) (B := 99) zr_131_84 (by omega) (by omega) (by decide) ?_
                  intro x190 ex190 hx190a hx190b
                  skip
                  skip
                  refine zw_14 (L' := [(2, 0), (0, a0), (1, (x186 + x189)), (9, 0), (1, x190), (9, 0), (0, ((0 + f130) + f169)), (0, (((0 + 1) + 1) + 1)), (0, x175), (0, x176)]) zr_131_85 (Nat.le_of_ble_eq_true rfl) rfl ?_
                  refine zw_4 zr_131_87 rfl ?_
                  refine zw_7 zr_131_89 rfl ?_
                  refine zw_46r (s := 1) zr_131_90 rfl rfl rfl rfl ?_
                  refine zw_46r (s := 13) zr_131_93 rfl rfl rfl rfl ?_
                  refine zw_4 zr_131_96 rfl ?_
                  refine zw_48k (c := 13) (len := 4) zr_131_98 rfl rfl (by omega) (by omega) (show ((((0 + 1) + 1) + 1) : Int).toNat = 3 by omega) ef187 ?_
                  have qf187 : f187 = F13 ((((0 + 1) + 1) + 1) : Int).toNat := by rw [show ((((0 + 1) + 1) + 1) : Int).toNat = 3 by omega, ← hG13]; exact (ef187).symm
                  refine zw_16 zr_131_99 (by omega) ?_
                  refine zw_10 (L' := [(2, 0), (0, a0), (1, (x186 + x189)), (9, 0), (1, x190), (9, 0), (0, (((0 + f130) + f169) + f187)), (0, (((0 + 1) + 1) + 1)), (0, x175), (0, x176)]) zr_131_100 (Nat.le_of_ble_eq_true rfl) rfl ?_
                  have hP4 := prs_y (R := (fun c => F3 (a0.toNat * 4 + c))) (A := (fun c => F4 (a0.toNat * 4 + c))) (W := F13) (k := 4) hP3 rfl (qx175.trans (congrArg F3 (by omega))) (qx176.trans (congrArg F4 (by omega))) (qf187.trans (congrArg F13 (by omega))) (by omega) ex186 ex188 ex189 ex190 ⟨rfl, rfl⟩
                  refine zw_15 (c := 1) (L' := [(2, 0), (0, a0), (1, (x186 + x189)), (9, 0), (1, x190), (9, 0), (0, (((0 + f130) + f169) + f187)), (0, ((((0 + 1) + 1) + 1) + 1)), (0, x175), (0, x176)]) zr_131_102 rfl (by decide) (by omega) rfl ?_
                  refine zw_42 zr_131_105 ?_
                  skip
                  refine zw_4 zr_131_11 rfl ?_
                  refine zw_push zr_131_13 ?_
                  refine zw_41_3 zr_131_14 ?_ ?_
                  · intro h191
                    refine zw_7 zr_131_108 rfl ?_
                    refine zw_46r (s := 42) zr_131_109 rfl rfl rfl rfl ?_
                    refine zw_5 zr_131_112 rfl ?_
                    refine zw_6 zr_131_113 rfl ?_
                    refine zw_4 zr_131_115 rfl ?_
                    refine zw_36 zr_131_117 ?_
                    refine zw_29s (A := 970299) (B := 27) zr_131_118 (by omega) (by omega) (by decide) ?_
                    intro x192 ex192 hx192a hx192b
                    skip
                    refine zw_C zr_131_119 (Or.inl rfl) zm_38 rfl rfl ⟨Nat.le_of_ble_eq_true rfl, Nat.le_of_ble_eq_true rfl, Nat.le_of_ble_eq_true rfl, rfl, by decide⟩ (by omega) (th_38 (d := d - 1) (by omega) hI0 (a0 := (x186 + x189)) (a1 := x192)      (by omega) (by omega) ) ?_
                    rintro _ m193 ⟨rfl, hIm193, gm193, po0_m193⟩
                    have hFm193 : zFr W_131 m0 m193 := hF0.trans gm193 rfl
                    have km193_13_0 : m193 13 0 = f130 := (gm193 13 0 rfl).trans ef130
                    have km193_13_2 : m193 13 2 = f169 := (gm193 13 2 rfl).trans ef169
                    have km193_13_3 : m193 13 3 = f187 := (gm193 13 3 rfl).trans ef187
                    have fm193_3 : m193 3 = F3 := (funext fun k => gm193 3 k rfl).trans hG3
                    have fm193_4 : m193 4 = F4 := (funext fun k => gm193 4 k rfl).trans hG4
                    have fm193_13 : m193 13 = F13 := (funext fun k => gm193 13 k rfl).trans hG13
                    obtain ⟨f194, ef194⟩ : ∃ v, m193 42 0 = v := ⟨_, rfl⟩
                    have bf194 := hIm193.fl (c := 42) (k := 0) rfl
                    rw [ef194] at bf194
                    rw [ef194] at po0_m193
                    obtain ⟨f195, ef195⟩ : ∃ v, m193 42 1 = v := ⟨_, rfl⟩
                    have bf195 := hIm193.fl (c := 42) (k := 1) rfl
                    rw [ef195] at bf195
                    rw [ef195] at po0_m193
                    show zW E (d) 131 122 [(2, 0), (0, a0), (1, (x186 + x189)), (9, 0), (1, x190), (9, 0), (0, (((0 + f130) + f169) + f187)), (0, ((((0 + 1) + 1) + 1) + 1)), (0, x175), (0, x176)] [] m193 Q
                    have hF := prs_t hP4 ex192 po0_m193
                    refine zw_R zr_131_122 (by decide) zm_131 (v := (9, 0)) rfl ?_
                    rw [← hQ]; exact ⟨rfl, hIm193, hFm193, by rw [ef194, ef195]; exact hF⟩
                  · intro h197; omega
        · intro h198
          refine zw_5 zr_131_54 rfl ?_
          refine zw_4 zr_131_55 rfl ?_
          refine zw_36 zr_131_57 ?_
          refine zw_29n (A := 891) (B := 99) zr_131_58 (by omega) (by omega) (by decide) ?_
          intro x199 ex199 hx199a hx199b
          skip
          refine zw_6 zr_131_59 rfl ?_
          refine zw_7 zr_131_61 rfl ?_
          refine zw_46r (s := 1) zr_131_62 rfl rfl rfl rfl ?_
          refine zw_46r (s := 13) zr_131_65 rfl rfl rfl rfl ?_
          refine zw_4 zr_131_68 rfl ?_
          obtain ⟨f200, ef200⟩ : ∃ v, m0 13 1 = v := ⟨_, rfl⟩
          have bf200 : 1 ≤ m0 13 1 ∧ m0 13 1 ≤ 9 := ib_13 hI0 (by omega)
          rw [ef200] at bf200
          refine zw_48k (c := 13) (len := 4) zr_131_70 rfl rfl (by omega) (by omega) (show ((0 + 1) : Int).toNat = 1 by omega) ef200 ?_
          have qf200 : f200 = F13 ((0 + 1) : Int).toNat := by rw [show ((0 + 1) : Int).toNat = 1 by omega, ← hG13]; exact (ef200).symm
          skip
          refine zw_36 zr_131_71 ?_
          refine zw_29s (A := 99) (B := 9) zr_131_72 (by omega) (by omega) (by decide) ?_
          intro x201 ex201 hx201a hx201b
          skip
          refine zw_4 zr_131_73 rfl ?_
          refine zw_36 zr_131_75 ?_
          refine zw_29n (A := 891) (B := 99) zr_131_76 (by omega) (by omega) (by decide) ?_
          intro x202 ex202 hx202a hx202b
          skip
          refine zw_27 zr_131_77 (by omega) ?_
          refine zw_13 (L' := [(2, 0), (0, a0), (1, (x199 + x202)), (9, 0), (1, (1 * x4)), (9, 0), (0, (0 + f130)), (0, (0 + 1)), (0, x134), (0, x135)]) zr_131_78 (Nat.le_of_ble_eq_true rfl) rfl ?_
          refine zw_6 zr_131_79 rfl ?_
          refine zw_4 zr_131_81 rfl ?_
          refine zw_36 zr_131_83 ?_
          refine zw_29s (A := 99) (B := 99) zr_131_84 (by omega) (by omega) (by decide) ?_
          intro x203 ex203 hx203a hx203b
          skip
          skip
          refine zw_14 (L' := [(2, 0), (0, a0), (1, (x199 + x202)), (9, 0), (1, x203), (9, 0), (0, (0 + f130)), (0, (0 + 1)), (0, x134), (0, x135)]) zr_131_85 (Nat.le_of_ble_eq_true rfl) rfl ?_
          refine zw_4 zr_131_87 rfl ?_
          refine zw_7 zr_131_89 rfl ?_
          refine zw_46r (s := 1) zr_131_90 rfl rfl rfl rfl ?_
          refine zw_46r (s := 13) zr_131_93 rfl rfl rfl rfl ?_
          refine zw_4 zr_131_96 rfl ?_
          refine zw_48k (c := 13) (len := 4) zr_131_98 rfl rfl (by omega) (by omega) (show ((0 + 1) : Int).toNat = 1 by omega) ef200 ?_
          have qf200 : f200 = F13 ((0 + 1) : Int).toNat := by rw [show ((0 + 1) : Int).toNat = 1 by omega, ← hG13]; exact (ef200).symm
          refine zw_16 zr_131_99 (by omega) ?_
          refine zw_10 (L' := [(2, 0), (0, a0), (1, (x199 + x202)), (9, 0), (1, x203), (9, 0), (0, ((0 + f130) + f200)), (0, (0 + 1)), (0, x134), (0, x135)]) zr_131_100 (Nat.le_of_ble_eq_true rfl) rfl ?_
          have hP2 := prs_y (R := (fun c => F3 (a0.toNat * 4 + c))) (A := (fun c => F4 (a0.toNat * 4 + c))) (W := F13) (k := 2) hP1 rfl (qx134.trans (congrArg F3 (by omega))) (qx135.trans (congrArg F4 (by omega))) (qf200.trans (congrArg F13 (by omega))) (by omega) ex199 ex201 ex202 ex203 ⟨rfl, rfl⟩
          refine zw_15 (c := 1) (L' := [(2, 0), (0, a0), (1, (x199 + x202)), (9, 0), (1, x203), (9, 0), (0, ((0 + f130) + f200)), (0, ((0 + 1) + 1)), (0, x134), (0, x135)]) zr_131_102 rfl (by decide) (by omega) rfl ?_
          refine zw_42 zr_131_105 ?_
          skip
          refine zw_4 zr_131_11 rfl ?_
          refine zw_push zr_131_13 ?_
          refine zw_41_3 zr_131_14 ?_ ?_
          · intro h204; omega
          · intro h205
            refine zw_7 zr_131_17 rfl ?_
            refine zw_46r (s := 1) zr_131_18 rfl rfl rfl rfl ?_
            refine zw_46r (s := 3) zr_131_21 rfl rfl rfl rfl ?_
            refine zw_3 zr_131_24 rfl ?_
            refine zw_push zr_131_25 ?_
            refine zw_18 zr_131_26 (by omega) ?_
            refine zw_4 zr_131_27 rfl ?_
            refine zw_16 zr_131_29 (by omega) ?_
            refine zw_48 (c := 3) (len := 40) zr_131_30 rfl rfl (by omega) (by omega) ?_
            intro x206 ex206
            have bx206 := ib_3 hI0 (k := (((a0 * 4) + ((0 + 1) + 1))).toNat) (by omega)
            rw [← ex206] at bx206
            have qx206 : x206 = F3 (((a0 * 4) + ((0 + 1) + 1))).toNat := by rw [← hG3]; exact ex206
            clear ex206
            skip
            refine zw_10 (L' := [(2, 0), (0, a0), (1, (x199 + x202)), (9, 0), (1, x203), (9, 0), (0, ((0 + f130) + f200)), (0, ((0 + 1) + 1)), (0, x206), (0, x135)]) zr_131_31 (Nat.le_of_ble_eq_true rfl) rfl ?_
            refine zw_7 zr_131_33 rfl ?_
            refine zw_46r (s := 1) zr_131_34 rfl rfl rfl rfl ?_
            refine zw_46r (s := 4) zr_131_37 rfl rfl rfl rfl ?_
            refine zw_3 zr_131_40 rfl ?_
            refine zw_push zr_131_41 ?_
            refine zw_18 zr_131_42 (by omega) ?_
            refine zw_4 zr_131_43 rfl ?_
            refine zw_16 zr_131_45 (by omega) ?_
            refine zw_48 (c := 4) (len := 40) zr_131_46 rfl rfl (by omega) (by omega) ?_
            intro x207 ex207
            have bx207 := ib_4 hI0 (k := (((a0 * 4) + ((0 + 1) + 1))).toNat) (by omega)
            rw [← ex207] at bx207
            have qx207 : x207 = F4 (((a0 * 4) + ((0 + 1) + 1))).toNat := by rw [← hG4]; exact ex207
            clear ex207
            skip
            skip
            refine zw_10 (L' := [(2, 0), (0, a0), (1, (x199 + x202)), (9, 0), (1, x203), (9, 0), (0, ((0 + f130) + f200)), (0, ((0 + 1) + 1)), (0, x206), (0, x207)]) zr_131_47 (Nat.le_of_ble_eq_true rfl) rfl ?_
            refine zw_4 zr_131_49 rfl ?_
            refine zw_40_5 zr_131_51 ?_ ?_
            · intro h208
              have hP3 := prs_n (R := (fun c => F3 (a0.toNat * 4 + c))) (A := (fun c => F4 (a0.toNat * 4 + c))) (W := F13) (k := 3) hP2 rfl (qx207.trans (congrArg F4 (by omega))) (by omega)
              refine zw_15 (c := 1) (L' := [(2, 0), (0, a0), (1, (x199 + x202)), (9, 0), (1, x203), (9, 0), (0, ((0 + f130) + f200)), (0, (((0 + 1) + 1) + 1)), (0, x206), (0, x207)]) zr_131_102 rfl (by decide) (by omega) rfl ?_
              refine zw_42 zr_131_105 ?_
              skip
              refine zw_4 zr_131_11 rfl ?_
              refine zw_push zr_131_13 ?_
              refine zw_41_3 zr_131_14 ?_ ?_
              · intro h209; omega
              · intro h210
                refine zw_7 zr_131_17 rfl ?_
                refine zw_46r (s := 1) zr_131_18 rfl rfl rfl rfl ?_
                refine zw_46r (s := 3) zr_131_21 rfl rfl rfl rfl ?_
                refine zw_3 zr_131_24 rfl ?_
                refine zw_push zr_131_25 ?_
                refine zw_18 zr_131_26 (by omega) ?_
                refine zw_4 zr_131_27 rfl ?_
                refine zw_16 zr_131_29 (by omega) ?_
                refine zw_48 (c := 3) (len := 40) zr_131_30 rfl rfl (by omega) (by omega) ?_
                intro x211 ex211
                have bx211 := ib_3 hI0 (k := (((a0 * 4) + (((0 + 1) + 1) + 1))).toNat) (by omega)
                rw [← ex211] at bx211
                have qx211 : x211 = F3 (((a0 * 4) + (((0 + 1) + 1) + 1))).toNat := by rw [← hG3]; exact ex211
                clear ex211
                skip
                refine zw_10 (L' := [(2, 0), (0, a0), (1, (x199 + x202)), (9, 0), (1, x203), (9, 0), (0, ((0 + f130) + f200)), (0, (((0 + 1) + 1) + 1)), (0, x211), (0, x207)]) zr_131_31 (Nat.le_of_ble_eq_true rfl) rfl ?_
                refine zw_7 zr_131_33 rfl ?_
                refine zw_46r (s := 1) zr_131_34 rfl rfl rfl rfl ?_
                refine zw_46r (s := 4) zr_131_37 rfl rfl rfl rfl ?_
                refine zw_3 zr_131_40 rfl ?_
                refine zw_push zr_131_41 ?_
                refine zw_18 zr_131_42 (by omega) ?_
                refine zw_4 zr_131_43 rfl ?_
                refine zw_16 zr_131_45 (by omega) ?_
                refine zw_48 (c := 4) (len := 40) zr_131_46 rfl rfl (by omega) (by omega) ?_
                intro x212 ex212
                have bx212 := ib_4 hI0 (k := (((a0 * 4) + (((0 + 1) + 1) + 1))).toNat) (by omega)
                rw [← ex212] at bx212
                have qx212 : x212 = F4 (((a0 * 4) + (((0 + 1) + 1) + 1))).toNat := by rw [← hG4]; exact ex212
                clear ex212
                skip
                skip
                refine zw_10 (L' := [(2, 0), (0, a0), (1, (x199 + x202)), (9, 0), (1, x203), (9, 0), (0, ((0 + f130) + f200)), (0, (((0 + 1) + 1) + 1)), (0, x211), (0, x212)]) zr_131_47 (Nat.le_of_ble_eq_true rfl) rfl ?_
                refine zw_4 zr_131_49 rfl ?_
                refine zw_40_5 zr_131_51 ?_ ?_
                · intro h213
                  have hP4 := prs_n (R := (fun c => F3 (a0.toNat * 4 + c))) (A := (fun c => F4 (a0.toNat * 4 + c))) (W := F13) (k := 4) hP3 rfl (qx212.trans (congrArg F4 (by omega))) (by omega)
                  refine zw_15 (c := 1) (L' := [(2, 0), (0, a0), (1, (x199 + x202)), (9, 0), (1, x203), (9, 0), (0, ((0 + f130) + f200)), (0, ((((0 + 1) + 1) + 1) + 1)), (0, x211), (0, x212)]) zr_131_102 rfl (by decide) (by omega) rfl ?_
                  refine zw_42 zr_131_105 ?_
                  skip
                  refine zw_4 zr_131_11 rfl ?_
                  refine zw_push zr_131_13 ?_
                  refine zw_41_3 zr_131_14 ?_ ?_
                  · intro h214
                    refine zw_7 zr_131_108 rfl ?_
                    refine zw_46r (s := 42) zr_131_109 rfl rfl rfl rfl ?_
                    refine zw_5 zr_131_112 rfl ?_
                    refine zw_6 zr_131_113 rfl ?_
                    refine zw_4 zr_131_115 rfl ?_
                    refine zw_36 zr_131_117 ?_
                    refine zw_29s (A := 9801) (B := 18) zr_131_118 (by omega) (by omega) (by decide) ?_
                    intro x215 ex215 hx215a hx215b
                    skip
                    refine zw_C zr_131_119 (Or.inl rfl) zm_38 rfl rfl ⟨Nat.le_of_ble_eq_true rfl, Nat.le_of_ble_eq_true rfl, Nat.le_of_ble_eq_true rfl, rfl, by decide⟩ (by omega) (th_38 (d := d - 1) (by omega) hI0 (a0 := (x199 + x202)) (a1 := x215)      (by omega) (by omega) ) ?_
                    rintro _ m216 ⟨rfl, hIm216, gm216, po0_m216⟩
                    have hFm216 : zFr W_131 m0 m216 := hF0.trans gm216 rfl
                    have km216_13_0 : m216 13 0 = f130 := (gm216 13 0 rfl).trans ef130
                    have km216_13_1 : m216 13 1 = f200 := (gm216 13 1 rfl).trans ef200
                    have fm216_3 : m216 3 = F3 := (funext fun k => gm216 3 k rfl).trans hG3
                    have fm216_4 : m216 4 = F4 := (funext fun k => gm216 4 k rfl).trans hG4
                    have fm216_13 : m216 13 = F13 := (funext fun k => gm216 13 k rfl).trans hG13
                    obtain ⟨f217, ef217⟩ : ∃ v, m216 42 0 = v := ⟨_, rfl⟩
                    have bf217 := hIm216.fl (c := 42) (k := 0) rfl
                    rw [ef217] at bf217
                    rw [ef217] at po0_m216
                    obtain ⟨f218, ef218⟩ : ∃ v, m216 42 1 = v := ⟨_, rfl⟩
                    have bf218 := hIm216.fl (c := 42) (k := 1) rfl
                    rw [ef218] at bf218
                    rw [ef218] at po0_m216
                    show zW E (d) 131 122 [(2, 0), (0, a0), (1, (x199 + x202)), (9, 0), (1, x203), (9, 0), (0, ((0 + f130) + f200)), (0, ((((0 + 1) + 1) + 1) + 1)), (0, x211), (0, x212)] [] m216 Q
                    have hF := prs_t hP4 ex215 po0_m216
                    refine zw_R zr_131_122 (by decide) zm_131 (v := (9, 0)) rfl ?_
                    rw [← hQ]; exact ⟨rfl, hIm216, hFm216, by rw [ef217, ef218]; exact hF⟩
                  · intro h220; omega
                · intro h221
                  refine zw_5 zr_131_54 rfl ?_
                  refine zw_4 zr_131_55 rfl ?_
                  refine zw_36 zr_131_57 ?_
                  refine zw_29n (A := 176418) (B := 99) zr_131_58 (by omega) (by omega) (by decide) ?_
                  intro x222 ex222 hx222a hx222b
                  skip
                  refine zw_6 zr_131_59 rfl ?_
                  refine zw_7 zr_131_61 rfl ?_
                  refine zw_46r (s := 1) zr_131_62 rfl rfl rfl rfl ?_
                  refine zw_46r (s := 13) zr_131_65 rfl rfl rfl rfl ?_
                  refine zw_4 zr_131_68 rfl ?_
                  obtain ⟨f223, ef223⟩ : ∃ v, m0 13 3 = v := ⟨_, rfl⟩
                  have bf223 : 1 ≤ m0 13 3 ∧ m0 13 3 ≤ 9 := ib_13 hI0 (by omega)
                  rw [ef223] at bf223
                  refine zw_48k (c := 13) (len := 4) zr_131_70 rfl rfl (by omega) (by omega) (show ((((0 + 1) + 1) + 1) : Int).toNat = 3 by omega) ef223 ?_
                  have qf223 : f223 = F13 ((((0 + 1) + 1) + 1) : Int).toNat := by rw [show ((((0 + 1) + 1) + 1) : Int).toNat = 3 by omega, ← hG13]; exact (ef223).symm
                  skip
                  refine zw_36 zr_131_71 ?_
                  refine zw_29s (A := 9801) (B := 9) zr_131_72 (by omega) (by omega) (by decide) ?_
                  intro x224 ex224 hx224a hx224b
                  skip
                  refine zw_4 zr_131_73 rfl ?_
                  refine zw_36 zr_131_75 ?_
                  refine zw_29n (A := 88209) (B := 99) zr_131_76 (by omega) (by omega) (by decide) ?_
                  intro x225 ex225 hx225a hx225b
                  skip
                  refine zw_27 zr_131_77 (by omega) ?_
                  refine zw_13 (L' := [(2, 0), (0, a0), (1, (x222 + x225)), (9, 0), (1, x203), (9, 0), (0, ((0 + f130) + f200)), (0, (((0 + 1) + 1) + 1)), (0, x211), (0, x212)]) zr_131_78 (Nat.le_of_ble_eq_true rfl) rfl ?_
                  refine zw_6 zr_131_79 rfl ?_
                  refine zw_4 zr_131_81 rfl ?_
                  refine zw_36 zr_131_83 ?_
                  refine zw_29s (A := 9801) (B := 99) zr_131_84 (by omega) (by omega) (by decide) ?_
                  intro x226 ex226 hx226a hx226b
                  skip
                  skip
                  refine zw_14 (L' := [(2, 0), (0, a0), (1, (x222 + x225)), (9, 0), (1, x226), (9, 0), (0, ((0 + f130) + f200)), (0, (((0 + 1) + 1) + 1)), (0, x211), (0, x212)]) zr_131_85 (Nat.le_of_ble_eq_true rfl) rfl ?_
                  refine zw_4 zr_131_87 rfl ?_
                  refine zw_7 zr_131_89 rfl ?_
                  refine zw_46r (s := 1) zr_131_90 rfl rfl rfl rfl ?_
                  refine zw_46r (s := 13) zr_131_93 rfl rfl rfl rfl ?_
                  refine zw_4 zr_131_96 rfl ?_
                  refine zw_48k (c := 13) (len := 4) zr_131_98 rfl rfl (by omega) (by omega) (show ((((0 + 1) + 1) + 1) : Int).toNat = 3 by omega) ef223 ?_
                  have qf223 : f223 = F13 ((((0 + 1) + 1) + 1) : Int).toNat := by rw [show ((((0 + 1) + 1) + 1) : Int).toNat = 3 by omega, ← hG13]; exact (ef223).symm
                  refine zw_16 zr_131_99 (by omega) ?_
                  refine zw_10 (L' := [(2, 0), (0, a0), (1, (x222 + x225)), (9, 0), (1, x226), (9, 0), (0, (((0 + f130) + f200) + f223)), (0, (((0 + 1) + 1) + 1)), (0, x211), (0, x212)]) zr_131_100 (Nat.le_of_ble_eq_true rfl) rfl ?_
                  have hP4 := prs_y (R := (fun c => F3 (a0.toNat * 4 + c))) (A := (fun c => F4 (a0.toNat * 4 + c))) (W := F13) (k := 4) hP3 rfl (qx211.trans (congrArg F3 (by omega))) (qx212.trans (congrArg F4 (by omega))) (qf223.trans (congrArg F13 (by omega))) (by omega) ex222 ex224 ex225 ex226 ⟨rfl, rfl⟩
                  refine zw_15 (c := 1) (L' := [(2, 0), (0, a0), (1, (x222 + x225)), (9, 0), (1, x226), (9, 0), (0, (((0 + f130) + f200) + f223)), (0, ((((0 + 1) + 1) + 1) + 1)), (0, x211), (0, x212)]) zr_131_102 rfl (by decide) (by omega) rfl ?_
                  refine zw_42 zr_131_105 ?_
                  skip
                  refine zw_4 zr_131_11 rfl ?_
                  refine zw_push zr_131_13 ?_
                  refine zw_41_3 zr_131_14 ?_ ?_
                  · intro h227
                    refine zw_7 zr_131_108 rfl ?_
                    refine zw_46r (s := 42) zr_131_109 rfl rfl rfl rfl ?_
                    refine zw_5 zr_131_112 rfl ?_
                    refine zw_6 zr_131_113 rfl ?_
                    refine zw_4 zr_131_115 rfl ?_
                    refine zw_36 zr_131_117 ?_
                    refine zw_29s (A := 970299) (B := 27) zr_131_118 (by omega) (by omega) (by decide) ?_
                    intro x228 ex228 hx228a hx228b
                    skip
                    refine zw_C zr_131_119 (Or.inl rfl) zm_38 rfl rfl ⟨Nat.le_of_ble_eq_true rfl, Nat.le_of_ble_eq_true rfl, Nat.le_of_ble_eq_true rfl, rfl, by decide⟩ (by omega) (th_38 (d := d - 1) (by omega) hI0 (a0 := (x222 + x225)) (a1 := x228)      (by omega) (by omega) ) ?_
                    rintro _ m229 ⟨rfl, hIm229, gm229, po0_m229⟩
                    have hFm229 : zFr W_131 m0 m229 := hF0.trans gm229 rfl
                    have km229_13_0 : m229 13 0 = f130 := (gm229 13 0 rfl).trans ef130
                    have km229_13_1 : m229 13 1 = f200 := (gm229 13 1 rfl).trans ef200
                    have km229_13_3 : m229 13 3 = f223 := (gm229 13 3 rfl).trans ef223
                    have fm229_3 : m229 3 = F3 := (funext fun k => gm229 3 k rfl).trans hG3
                    have fm229_4 : m229 4 = F4 := (funext fun k => gm229 4 k rfl).trans hG4
                    have fm229_13 : m229 13 = F13 := (funext fun k => gm229 13 k rfl).trans hG13
                    obtain ⟨f230, ef230⟩ : ∃ v, m229 42 0 = v := ⟨_, rfl⟩
                    have bf230 := hIm229.fl (c := 42) (k := 0) rfl
                    rw [ef230] at bf230
                    rw [ef230] at po0_m229
                    obtain ⟨f231, ef231⟩ : ∃ v, m229 42 1 = v := ⟨_, rfl⟩
                    have bf231 := hIm229.fl (c := 42) (k := 1) rfl
                    rw [ef231] at bf231
                    rw [ef231] at po0_m229
                    show zW E (d) 131 122 [(2, 0), (0, a0), (1, (x222 + x225)), (9, 0), (1, x226), (9, 0), (0, (((0 + f130) + f200) + f223)), (0, ((((0 + 1) + 1) + 1) + 1)), (0, x211), (0, x212)] [] m229 Q
                    have hF := prs_t hP4 ex228 po0_m229
                    refine zw_R zr_131_122 (by decide) zm_131 (v := (9, 0)) rfl ?_
                    rw [← hQ]; exact ⟨rfl, hIm229, hFm229, by rw [ef230, ef231]; exact hF⟩
                  · intro h233; omega
            · intro h234
              refine zw_5 zr_131_54 rfl ?_
              refine zw_4 zr_131_55 rfl ?_
              refine zw_36 zr_131_57 ?_
              refine zw_29n (A := 176418) (B := 99) zr_131_58 (by omega) (by omega) (by decide) ?_
              intro x235 ex235 hx235a hx235b
              skip
              refine zw_6 zr_131_59 rfl ?_
              refine zw_7 zr_131_61 rfl ?_
              refine zw_46r (s := 1) zr_131_62 rfl rfl rfl rfl ?_
              refine zw_46r (s := 13) zr_131_65 rfl rfl rfl rfl ?_
              refine zw_4 zr_131_68 rfl ?_
              obtain ⟨f236, ef236⟩ : ∃ v, m0 13 2 = v := ⟨_, rfl⟩
              have bf236 : 1 ≤ m0 13 2 ∧ m0 13 2 ≤ 9 := ib_13 hI0 (by omega)
              rw [ef236] at bf236
              refine zw_48k (c := 13) (len := 4) zr_131_70 rfl rfl (by omega) (by omega) (show (((0 + 1) + 1) : Int).toNat = 2 by omega) ef236 ?_
              have qf236 : f236 = F13 (((0 + 1) + 1) : Int).toNat := by rw [show (((0 + 1) + 1) : Int).toNat = 2 by omega, ← hG13]; exact (ef236).symm
              skip
              refine zw_36 zr_131_71 ?_
              refine zw_29s (A := 9801) (B := 9) zr_131_72 (by omega) (by omega) (by decide) ?_
              intro x237 ex237 hx237a hx237b
              skip
              refine zw_4 zr_131_73 rfl ?_
              refine zw_36 zr_131_75 ?_
              refine zw_29n (A := 88209) (B := 99) zr_131_76 (by omega) (by omega) (by decide) ?_
              intro x238 ex238 hx238a hx238b
              skip
              refine zw_27 zr_131_77 (by omega) ?_
              refine zw_13 (L' := [(2, 0), (0, a0), (1, (x235 + x238)), (9, 0), (1, x203), (9, 0), (0, ((0 + f130) + f200)), (0, ((0 + 1) + 1)), (0, x206), (0, x207)]) zr_131_78 (Nat.le_of_ble_eq_true rfl) rfl ?_
              refine zw_6 zr_131_79 rfl ?_
              refine zw_4 zr_131_81 rfl ?_
              refine zw_36 zr_131_83 ?_
              refine zw_29s (A := 9801) (B := 99) zr_131_84 (by omega) (by omega) (by decide) ?_
              intro x239 ex239 hx239a hx239b
              skip
              skip
              refine zw_14 (L' := [(2, 0), (0, a0), (1, (x235 + x238)), (9, 0), (1, x239), (9, 0), (0, ((0 + f130) + f200)), (0, ((0 + 1) + 1)), (0, x206), (0, x207)]) zr_131_85 (Nat.le_of_ble_eq_true rfl) rfl ?_
              refine zw_4 zr_131_87 rfl ?_
              refine zw_7 zr_131_89 rfl ?_
              refine zw_46r (s := 1) zr_131_90 rfl rfl rfl rfl ?_
              refine zw_46r (s := 13) zr_131_93 rfl rfl rfl rfl ?_
              refine zw_4 zr_131_96 rfl ?_
              refine zw_48k (c := 13) (len := 4) zr_131_98 rfl rfl (by omega) (by omega) (show (((0 + 1) + 1) : Int).toNat = 2 by omega) ef236 ?_
              have qf236 : f236 = F13 (((0 + 1) + 1) : Int).toNat := by rw [show (((0 + 1) + 1) : Int).toNat = 2 by omega, ← hG13]; exact (ef236).symm
              refine zw_16 zr_131_99 (by omega) ?_
              refine zw_10 (L' := [(2, 0), (0, a0), (1, (x235 + x238)), (9, 0), (1, x239), (9, 0), (0, (((0 + f130) + f200) + f236)), (0, ((0 + 1) + 1)), (0, x206), (0, x207)]) zr_131_100 (Nat.le_of_ble_eq_true rfl) rfl ?_
              have hP3 := prs_y (R := (fun c => F3 (a0.toNat * 4 + c))) (A := (fun c => F4 (a0.toNat * 4 + c))) (W := F13) (k := 3) hP2 rfl (qx206.trans (congrArg F3 (by omega))) (qx207.trans (congrArg F4 (by omega))) (qf236.trans (congrArg F13 (by omega))) (by omega) ex235 ex237 ex238 ex239 ⟨rfl, rfl⟩
              refine zw_15 (c := 1) (L' := [(2, 0), (0, a0), (1, (x235 + x238)), (9, 0), (1, x239), (9, 0), (0, (((0 + f130) + f200) + f236)), (0, (((0 + 1) + 1) + 1)), (0, x206), (0, x207)]) zr_131_102 rfl (by decide) (by omega) rfl ?_
              refine zw_42 zr_131_105 ?_
              skip
              refine zw_4 zr_131_11 rfl ?_
              refine zw_push zr_131_13 ?_
              refine zw_41_3 zr_131_14 ?_ ?_
              · intro h240; omega
              · intro h241
                refine zw_7 zr_131_17 rfl ?_
                refine zw_46r (s := 1) zr_131_18 rfl rfl rfl rfl ?_
                refine zw_46r (s := 3) zr_131_21 rfl rfl rfl rfl ?_
                refine zw_3 zr_131_24 rfl ?_
                refine zw_push zr_131_25 ?_
                refine zw_18 zr_131_26 (by omega) ?_
                refine zw_4 zr_131_27 rfl ?_
                refine zw_16 zr_131_29 (by omega) ?_
                refine zw_48 (c := 3) (len := 40) zr_131_30 rfl rfl (by omega) (by omega) ?_
                intro x242 ex242
                have bx242 := ib_3 hI0 (k := (((a0 * 4) + (((0 + 1) + 1) + 1))).toNat) (by omega)
                rw [← ex242] at bx242
                have qx242 : x242 = F3 (((a0 * 4) + (((0 + 1) + 1) + 1))).toNat := by rw [← hG3]; exact ex242
                clear ex242
                skip
                refine zw_10 (L' := [(2, 0), (0, a0), (1, (x235 + x238)), (9, 0), (1, x239), (9, 0), (0, (((0 + f130) + f200) + f236)), (0, (((0 + 1) + 1) + 1)), (0, x242), (0, x207)]) zr_131_31 (Nat.le_of_ble_eq_true rfl) rfl ?_
                refine zw_7 zr_131_33 rfl ?_
                refine zw_46r (s := 1) zr_131_34 rfl rfl rfl rfl ?_
                refine zw_46r (s := 4) zr_131_37 rfl rfl rfl rfl ?_
                refine zw_3 zr_131_40 rfl ?_
                refine zw_push zr_131_41 ?_
                refine zw_18 zr_131_42 (by omega) ?_
                refine zw_4 zr_131_43 rfl ?_
                refine zw_16 zr_131_45 (by omega) ?_
                refine zw_48 (c := 4) (len := 40) zr_131_46 rfl rfl (by omega) (by omega) ?_
                intro x243 ex243
                have bx243 := ib_4 hI0 (k := (((a0 * 4) + (((0 + 1) + 1) + 1))).toNat) (by omega)
                rw [← ex243] at bx243
                have qx243 : x243 = F4 (((a0 * 4) + (((0 + 1) + 1) + 1))).toNat := by rw [← hG4]; exact ex243
                clear ex243
                skip
                skip
                refine zw_10 (L' := [(2, 0), (0, a0), (1, (x235 + x238)), (9, 0), (1, x239), (9, 0), (0, (((0 + f130) + f200) + f236)), (0, (((0 + 1) + 1) + 1)), (0, x242), (0, x243)]) zr_131_47 (Nat.le_of_ble_eq_true rfl) rfl ?_
                refine zw_4 zr_131_49 rfl ?_
                refine zw_40_5 zr_131_51 ?_ ?_
                · intro h244
                  have hP4 := prs_n (R := (fun c => F3 (a0.toNat * 4 + c))) (A := (fun c => F4 (a0.toNat * 4 + c))) (W := F13) (k := 4) hP3 rfl (qx243.trans (congrArg F4 (by omega))) (by omega)
                  refine zw_15 (c := 1) (L' := [(2, 0), (0, a0), (1, (x235 + x238)), (9, 0), (1, x239), (9, 0), (0, (((0 + f130) + f200) + f236)), (0, ((((0 + 1) + 1) + 1) + 1)), (0, x242), (0, x243)]) zr_131_102 rfl (by decide) (by omega) rfl ?_
                  refine zw_42 zr_131_105 ?_
                  skip
                  refine zw_4 zr_131_11 rfl ?_
                  refine zw_push zr_131_13 ?_
                  refine zw_41_3 zr_131_14 ?_ ?_
                  · intro h245
                    refine zw_7 zr_131_108 rfl ?_
                    refine zw_46r (s := 42) zr_131_109 rfl rfl rfl rfl ?_
                    refine zw_5 zr_131_112 rfl ?_
                    refine zw_6 zr_131_113 rfl ?_
                    refine zw_4 zr_131_115 rfl ?_
                    refine zw_36 zr_131_117 ?_
                    refine zw_29s (A := 970299) (B := 27) zr_131_118 (by omega) (by omega) (by decide) ?_
                    intro x246 ex246 hx246a hx246b
                    skip
                    refine zw_C zr_131_119 (Or.inl rfl) zm_38 rfl rfl ⟨Nat.le_of_ble_eq_true rfl, Nat.le_of_ble_eq_true rfl, Nat.le_of_ble_eq_true rfl, rfl, by decide⟩ (by omega) (th_38 (d := d - 1) (by omega) hI0 (a0 := (x235 + x238)) (a1 := x246)      (by omega) (by omega) ) ?_
                    rintro _ m247 ⟨rfl, hIm247, gm247, po0_m247⟩
                    have hFm247 : zFr W_131 m0 m247 := hF0.trans gm247 rfl
                    have km247_13_0 : m247 13 0 = f130 := (gm247 13 0 rfl).trans ef130
                    have km247_13_1 : m247 13 1 = f200 := (gm247 13 1 rfl).trans ef200
                    have km247_13_2 : m247 13 2 = f236 := (gm247 13 2 rfl).trans ef236
                    have fm247_3 : m247 3 = F3 := (funext fun k => gm247 3 k rfl).trans hG3
                    have fm247_4 : m247 4 = F4 := (funext fun k => gm247 4 k rfl).trans hG4
                    have fm247_13 : m247 13 = F13 := (funext fun k => gm247 13 k rfl).trans hG13
                    obtain ⟨f248, ef248⟩ : ∃ v, m247 42 0 = v := ⟨_, rfl⟩
                    have bf248 := hIm247.fl (c := 42) (k := 0) rfl
                    rw [ef248] at bf248
                    rw [ef248] at po0_m247
                    obtain ⟨f249, ef249⟩ : ∃ v, m247 42 1 = v := ⟨_, rfl⟩
                    have bf249 := hIm247.fl (c := 42) (k := 1) rfl
                    rw [ef249] at bf249
                    rw [ef249] at po0_m247
                    show zW E (d) 131 122 [(2, 0), (0, a0), (1, (x235 + x238)), (9, 0), (1, x239), (9, 0), (0, (((0 + f130) + f200) + f236)), (0, ((((0 + 1) + 1) + 1) + 1)), (0, x242), (0, x243)] [] m247 Q
                    have hF := prs_t hP4 ex246 po0_m247
                    refine zw_R zr_131_122 (by decide) zm_131 (v := (9, 0)) rfl ?_
                    rw [← hQ]; exact ⟨rfl, hIm247, hFm247, by rw [ef248, ef249]; exact hF⟩
                  · intro h251; omega
                · intro h252
                  refine zw_5 zr_131_54 rfl ?_
                  refine zw_4 zr_131_55 rfl ?_
                  refine zw_36 zr_131_57 ?_
                  refine zw_29n (A := 26198073) (B := 99) zr_131_58 (by omega) (by omega) (by decide) ?_
                  intro x253 ex253 hx253a hx253b
                  skip
                  refine zw_6 zr_131_59 rfl ?_
                  refine zw_7 zr_131_61 rfl ?_
                  refine zw_46r (s := 1) zr_131_62 rfl rfl rfl rfl ?_
                  refine zw_46r (s := 13) zr_131_65 rfl rfl rfl rfl ?_
                  refine zw_4 zr_131_68 rfl ?_
                  obtain ⟨f254, ef254⟩ : ∃ v, m0 13 3 = v := ⟨_, rfl⟩
                  have bf254 : 1 ≤ m0 13 3 ∧ m0 13 3 ≤ 9 := ib_13 hI0 (by omega)
                  rw [ef254] at bf254
                  refine zw_48k (c := 13) (len := 4) zr_131_70 rfl rfl (by omega) (by omega) (show ((((0 + 1) + 1) + 1) : Int).toNat = 3 by omega) ef254 ?_
                  have qf254 : f254 = F13 ((((0 + 1) + 1) + 1) : Int).toNat := by rw [show ((((0 + 1) + 1) + 1) : Int).toNat = 3 by omega, ← hG13]; exact (ef254).symm
                  skip
                  refine zw_36 zr_131_71 ?_
                  refine zw_29s (A := 970299) (B := 9) zr_131_72 (by omega) (by omega) (by decide) ?_
                  intro x255 ex255 hx255a hx255b
                  skip
                  refine zw_4 zr_131_73 rfl ?_
                  refine zw_36 zr_131_75 ?_
                  refine zw_29n (A := 8732691) (B := 99) zr_131_76 (by omega) (by omega) (by decide) ?_
                  intro x256 ex256 hx256a hx256b
                  skip
                  refine zw_27 zr_131_77 (by omega) ?_
                  refine zw_13 (L' := [(2, 0), (0, a0), (1, (x253 + x256)), (9, 0), (1, x239), (9, 0), (0, (((0 + f130) + f200) + f236)), (0, (((0 + 1) + 1) + 1)), (0, x242), (0, x243)]) zr_131_78 (Nat.le_of_ble_eq_true rfl) rfl ?_
                  refine zw_6 zr_131_79 rfl ?_
                  refine zw_4 zr_131_81 rfl ?_
                  refine zw_36 zr_131_83 ?_
                  refine zw_29s (A := 970299) (B := 99) zr_131_84 (by omega) (by omega) (by decide) ?_
                  intro x257 ex257 hx257a hx257b
                  skip
                  skip
                  refine zw_14 (L' := [(2, 0), (0, a0), (1, (x253 + x256)), (9, 0), (1, x257), (9, 0), (0, (((0 + f130) + f200) + f236)), (0, (((0 + 1) + 1) + 1)), (0, x242), (0, x243)]) zr_131_85 (Nat.le_of_ble_eq_true rfl) rfl ?_
                  refine zw_4 zr_131_87 rfl ?_
                  refine zw_7 zr_131_89 rfl ?_
                  refine zw_46r (s := 1) zr_131_90 rfl rfl rfl rfl ?_
                  refine zw_46r (s := 13) zr_131_93 rfl rfl rfl rfl ?_
                  refine zw_4 zr_131_96 rfl ?_
                  refine zw_48k (c := 13) (len := 4) zr_131_98 rfl rfl (by omega) (by omega) (show ((((0 + 1) + 1) + 1) : Int).toNat = 3 by omega) ef254 ?_
                  have qf254 : f254 = F13 ((((0 + 1) + 1) + 1) : Int).toNat := by rw [show ((((0 + 1) + 1) + 1) : Int).toNat = 3 by omega, ← hG13]; exact (ef254).symm
                  refine zw_16 zr_131_99 (by omega) ?_
                  refine zw_10 (L' := [(2, 0), (0, a0), (1, (x253 + x256)), (9, 0), (1, x257), (9, 0), (0, ((((0 + f130) + f200) + f236) + f254)), (0, (((0 + 1) + 1) + 1)), (0, x242), (0, x243)]) zr_131_100 (Nat.le_of_ble_eq_true rfl) rfl ?_
                  have hP4 := prs_y (R := (fun c => F3 (a0.toNat * 4 + c))) (A := (fun c => F4 (a0.toNat * 4 + c))) (W := F13) (k := 4) hP3 rfl (qx242.trans (congrArg F3 (by omega))) (qx243.trans (congrArg F4 (by omega))) (qf254.trans (congrArg F13 (by omega))) (by omega) ex253 ex255 ex256 ex257 ⟨rfl, rfl⟩
                  refine zw_15 (c := 1) (L' := [(2, 0), (0, a0), (1, (x253 + x256)), (9, 0), (1, x257), (9, 0), (0, ((((0 + f130) + f200) + f236) + f254)), (0, ((((0 + 1) + 1) + 1) + 1)), (0, x242), (0, x243)]) zr_131_102 rfl (by decide) (by omega) rfl ?_
                  refine zw_42 zr_131_105 ?_
                  skip
                  refine zw_4 zr_131_11 rfl ?_
                  refine zw_push zr_131_13 ?_
                  refine zw_41_3 zr_131_14 ?_ ?_
                  · intro h258
                    refine zw_7 zr_131_108 rfl ?_
                    refine zw_46r (s := 42) zr_131_109 rfl rfl rfl rfl ?_
                    refine zw_5 zr_131_112 rfl ?_
                    refine zw_6 zr_131_113 rfl ?_
                    refine zw_4 zr_131_115 rfl ?_
                    refine zw_36 zr_131_117 ?_
                    refine zw_29s (A := 96059601) (B := 36) zr_131_118 (by omega) (by omega) (by decide) ?_
                    intro x259 ex259 hx259a hx259b
                    skip
                    refine zw_C zr_131_119 (Or.inl rfl) zm_38 rfl rfl ⟨Nat.le_of_ble_eq_true rfl, Nat.le_of_ble_eq_true rfl, Nat.le_of_ble_eq_true rfl, rfl, by decide⟩ (by omega) (th_38 (d := d - 1) (by omega) hI0 (a0 := (x253 + x256)) (a1 := x259)      (by omega) (by omega) ) ?_
                    rintro _ m260 ⟨rfl, hIm260, gm260, po0_m260⟩
                    have hFm260 : zFr W_131 m0 m260 := hF0.trans gm260 rfl
                    have km260_13_0 : m260 13 0 = f130 := (gm260 13 0 rfl).trans ef130
                    have km260_13_1 : m260 13 1 = f200 := (gm260 13 1 rfl).trans ef200
                    have km260_13_2 : m260 13 2 = f236 := (gm260 13 2 rfl).trans ef236
                    have km260_13_3 : m260 13 3 = f254 := (gm260 13 3 rfl).trans ef254
                    have fm260_3 : m260 3 = F3 := (funext fun k => gm260 3 k rfl).trans hG3
                    have fm260_4 : m260 4 = F4 := (funext fun k => gm260 4 k rfl).trans hG4
                    have fm260_13 : m260 13 = F13 := (funext fun k => gm260 13 k rfl).trans hG13
                    obtain ⟨f261, ef261⟩ : ∃ v, m260 42 0 = v := ⟨_, rfl⟩
                    have bf261 := hIm260.fl (c := 42) (k := 0) rfl
                    rw [ef261] at bf261
                    rw [ef261] at po0_m260
                    obtain ⟨f262, ef262⟩ : ∃ v, m260 42 1 = v := ⟨_, rfl⟩
                    have bf262 := hIm260.fl (c := 42) (k := 1) rfl
                    rw [ef262] at bf262
                    rw [ef262] at po0_m260
                    show zW E (d) 131 122 [(2, 0), (0, a0), (1, (x253 + x256)), (9, 0), (1, x257), (9, 0), (0, ((((0 + f130) + f200) + f236) + f254)), (0, ((((0 + 1) + 1) + 1) + 1)), (0, x242), (0, x243)] [] m260 Q
                    have hF := prs_t hP4 ex259 po0_m260
                    refine zw_R zr_131_122 (by decide) zm_131 (v := (9, 0)) rfl ?_
                    rw [← hQ]; exact ⟨rfl, hIm260, hFm260, by rw [ef261, ef262]; exact hF⟩
                  · intro h264; omega
