/-! the kept record -/
def zKs (m : zM) (j n : Nat) : Prop := ∀ k, k < n → ∀ lo hi, zbN k = some (lo, hi) → lo ≤ m 71 (826 * j + k) ∧ m 71 (826 * j + k) ≤ hi
theorem zbN_lt {k : Nat} {lo hi : Int} (h : zbN k = some (lo, hi)) : k < 826 := by
  by_cases hk : k < 826
  · exact hk
  · exfalso
    have : zbN k = none := by
      unfold zbN
      repeat (first | rw [if_neg (by omega)])
    rw [this] at h
    cases h
theorem zInv.img {m : zM} (h : zInv m) {j k kk : Nat} {v : Int} (hj : j < 2) (hk : k < 826) (hkk : kk = 826 * j + k) (hv : v = m 70 k) : zInv (zUp m 71 kk v) := by
  refine ⟨fun r' k' lo hi hb => ?_, fun j' hj' hm k' lo hi hb => ?_, fun r' k' => ?_⟩
  · by_cases hc : r' = 71 ∧ k' = kk
    · obtain ⟨rfl, rfl⟩ := hc
      cases hb
    · rw [zUp_ne hc]
      exact h.1 r' k' lo hi hb
  · rw [zUp_ne (by omega)] at hm
    have hk' := zbN_lt hb
    by_cases hc : (71 : Nat) = 71 ∧ 826 * j' + k' = kk
    · have e1 : j' = j ∧ k' = k := by omega
      obtain ⟨rfl, rfl⟩ := e1
      rw [hkk, zUp_eq, hv]
      exact h.1 70 k' lo hi hb
    · rw [zUp_ne hc]
      exact h.2.1 j' hj' hm k' lo hi hb
  · by_cases hc : r' = 71 ∧ k' = kk
    · obtain ⟨rfl, rfl⟩ := hc
      rw [zUp_eq]
      exact zRg_i (by rw [hv]; exact h.ra (c := 70) (len := 826) rfl hk)
    · rw [zUp_ne hc]
      exact h.2.2 r' k'
theorem zKs.step {m : zM} (h : zInv m) {j k kk n : Nat} {v : Int} (hs : zKs m j k) (hk : k < 826) (hkk : kk = 826 * j + k) (hv : v = m 70 k) (hn : n = k + 1) : zKs (zUp m 71 kk v) j n := by
  intro k' hk' lo hi hb
  by_cases hc : k' = k
  · subst hc
    rw [hkk, zUp_eq, hv]
    exact h.1 70 k' lo hi hb
  · rw [zUp_ne (by omega)]
    exact hs k' (by omega) lo hi hb
theorem zInv.kept {m : zM} (h : zInv m) {j n : Nat} (hj : j < 2) (hn : 826 ≤ n) (hs : zKs m j n) : zInv (zUp m 72 j 1) := by
  refine ⟨fun r' k' lo hi hb => ?_, fun j' hj' hm k' lo hi hb => ?_, fun r' k' => ?_⟩
  · by_cases hc : r' = 72 ∧ k' = j
    · obtain ⟨rfl, rfl⟩ := hc
      rw [zUp_eq]
      have hb : (if k' < 2 then some ((0 : Int), (1 : Int)) else none) = some (lo, hi) := hb
      rw [if_pos hj] at hb
      cases hb
      decide
    · rw [zUp_ne hc]
      exact h.1 r' k' lo hi hb
  · rw [zUp_ne (by omega)]
    by_cases hc : j' = j
    · subst hc
      exact hs k' (by have := zbN_lt hb; omega) lo hi hb
    · rw [zUp_ne (fun q => hc q.2)] at hm
      exact h.2.1 j' hj' hm k' lo hi hb
  · by_cases hc : r' = 72 ∧ k' = j
    · obtain ⟨rfl, rfl⟩ := hc
      rw [zUp_eq]
      exact zRg_i (by decide)
    · rw [zUp_ne hc]
      exact h.2.2 r' k'
theorem zInv.frm {m : zM} (h : zInv m) {j k kk : Nat} {v : Int} (hj : j < 2) (hm : m 72 j ≠ 0) (hk : k < 826) (hkk : kk = 826 * j + k) (hv : v = m 71 kk) : zInv (zUp m 70 k v) := by
  refine h.up (fun lo hi hb => ?_) (zRg_i ?_) (by decide) (by decide)
  · rw [hv, hkk]
    exact h.2.1 j hj hm k lo hi hb
  · rw [hv]
    exact h.ra (c := 71) (len := 1652) rfl (by omega)
abbrev W_208 : List (Nat × Nat) := [(71, 1000), (72, 1000)]
set_option maxHeartbeats 8000000 in
theorem th_208 {E : zE} {d : Nat} {m0 : zM} {a0 : Int} {F70 : Nat → Int} {F71 : Nat → Int} {F72 : Nat → Int} (hd : 3 ≤ d) (hI0 : zInv m0) (hG70 : m0 70 = F70) (hG71 : m0 71 = F71) (hG72 : m0 72 = F72) (ha0 : (-2147483648) ≤ a0 ∧ a0 ≤ 2147483647) : zC E d 208 [(2, 69), (0, a0)] m0 (fun v m' => ∃ r : Int, v = (0, r) ∧ (-2) ≤ r ∧ r ≤ 1 ∧ zInv m' ∧ zFr W_208 m0 m' ∧ (zRi m0 m' a0 r)) := by
  have hF0 : zFr W_208 m0 m0 := zFr.rfl
  generalize hQ : (fun (v : zV) (m' : zM) => ∃ r : Int, v = (0, r) ∧ (-2) ≤ r ∧ r ≤ 1 ∧ zInv m' ∧ zFr W_208 m0 m' ∧ (zRi m0 m' a0 r)) = Q
  show zW E d 208 0 [(2, 69), (0, a0), (9, 0)] [] m0 Q
  refine zw_3 zr_208_0 rfl ?_
  refine zw_36 zr_208_1 ?_
  refine zw_push zr_208_2 ?_
  refine zw_push zr_208_3 ?_
  refine zw_C zr_208_4 (Or.inr rfl) zm_140 rfl rfl ⟨Nat.le_of_ble_eq_true rfl, Nat.le_of_ble_eq_true rfl, Nat.le_of_ble_eq_true rfl, rfl, by decide⟩ (by omega) (P := (fun v m' => zW E (d) 208 7 [(2, 69), (0, a0), (9, 0)] (if v.1 = 9 then [] else v :: []) m' Q)) ?_ (fun _ _ h => h)
  generalize hQ1 : (fun v m' => zW E (d) 208 7 [(2, 69), (0, a0), (9, 0)] (if v.1 = 9 then [] else v :: []) m' Q) = Q1
  show zW E (d - 1) 140 0 [(1, a0), (9, 0), (1, 0), (9, 0), (1, 1), (9, 0)] [] m0 Q1
  refine zw_5 zr_140_0 rfl ?_
  refine zw_5 zr_140_1 rfl ?_
  refine zw_39_0 zr_140_2 zr_140_3 ?_ ?_
  · intro h1
    refine zw_push zr_140_17 ?_
    refine zw_R zr_140_18 (by decide) zm_140 (v := (0, 0)) (zRetB (by omega)) ?_
    rw [← hQ1]
    show zW E (d) 208 7 [(2, 69), (0, a0), (9, 0)] [(0, 0)] m0 Q
    refine zw_40_4 zr_208_7 ?_ ?_
    · intro h2; omega
    · intro h3
      refine zw_push zr_208_10 ?_
      refine zw_R zr_208_12 (by decide) zm_208 (v := (0, (-2))) rfl ?_
      rw [← hQ]; exact ⟨_, rfl, by omega, by omega, hI0, hF0, by first | exact Or.inl ⟨rfl, by omega, rfl⟩ | exact Or.inr (zRi_1 zz hG70 hG71 hG72 hG71 (by rw [hG72, zz]) (by omega) (by omega))⟩
  · intro h5
    refine zw_5 zr_140_6 rfl ?_
    refine zw_6 zr_140_7 rfl ?_
    refine zw_39_2 zr_140_9 zr_140_10 ?_ ?_
    · intro h6
      refine zw_push zr_140_17 ?_
      refine zw_R zr_140_18 (by decide) zm_140 (v := (0, 0)) (zRetB (by omega)) ?_
      rw [← hQ1]
      show zW E (d) 208 7 [(2, 69), (0, a0), (9, 0)] [(0, 0)] m0 Q
      refine zw_40_4 zr_208_7 ?_ ?_
      · intro h7; omega
      · intro h8
        refine zw_push zr_208_10 ?_
        refine zw_R zr_208_12 (by decide) zm_208 (v := (0, (-2))) rfl ?_
        rw [← hQ]; exact ⟨_, rfl, by omega, by omega, hI0, hF0, by first | exact Or.inl ⟨rfl, by omega, rfl⟩ | exact Or.inr (zRi_1 zz hG70 hG71 hG72 hG71 (by rw [hG72, zz]) (by omega) (by omega))⟩
    · intro h10
      refine zw_push zr_140_13 ?_
      refine zw_42 zr_140_14 ?_
      refine zw_R zr_140_18 (by decide) zm_140 (v := (0, 1)) (zRetB (by omega)) ?_
      rw [← hQ1]
      show zW E (d) 208 7 [(2, 69), (0, a0), (9, 0)] [(0, 1)] m0 Q
      refine zw_40_4 zr_208_7 ?_ ?_
      · intro h11
        refine zw_push zr_208_13 ?_
        refine zw_9 (L' := [(2, 69), (0, a0), (0, 0)]) zr_208_14 (Nat.le_of_ble_eq_true rfl) rfl ?_
        have lp15_16 : ∀ (nlp15_16 : Nat) (i12 : Int) (f14 : Nat → Int) (f15 : Nat → Int) (m13 : zM), zInv m13 → zFr W_208 m0 m13 → m13 70 = F70 → m13 71 = f14 → m13 72 = f15 → 0 ≤ i12 → i12 ≤ 826 → (zIg f14 F71 F70 a0 i12) → (f15 = F72) → zKs m13 a0.toNat i12.toNat → (826 - i12).toNat < nlp15_16 → zW E (d) 208 15 [(2, 69), (0, a0), (0, i12)] [] m13 Q := by
          intro nlp15_16
          induction nlp15_16 with
          | zero =>
            intros
            exact absurd (by assumption : _ < 0) (Nat.not_lt_zero _)
          | succ nlp15_16 ihlp15_16 =>
            intro i12 f14 f15 m13 hIm13 hFm13 fm13_70 fm13_71 fm13_72 li12 ui12 hv0lp15_16 hv1lp15_16 hks hmlp15_16
            refine zw_3 zr_208_15 rfl ?_
            refine zw_push zr_208_16 ?_
            refine zw_41_3 zr_208_19 ?_ ?_
            · intro h18
              refine zw_7 zr_208_46 rfl ?_
              refine zw_46r (s := 72) zr_208_47 rfl rfl rfl rfl ?_
              refine zw_3 zr_208_50 rfl ?_
              refine zw_push zr_208_51 ?_
              refine zw_53 (c := 72) (len := 2) zr_208_52 rfl rfl (by omega) (by omega) (by omega) ?_
              intro m19 em19
              have hIm19 : zInv m19 := by rw [em19]; exact zInv.kept hIm13 (by omega) (by omega) hks
              have hFm19 : zFr W_208 m0 m19 := by rw [em19]; exact hFm13.any rfl
              have fm19_70 : m19 70 = F70 := by rw [em19, zUp_fn (by decide)]; exact fm13_70
              have fm19_71 : m19 71 = f14 := by rw [em19, zUp_fn (by decide)]; exact fm13_71
              have fm19_72 : m19 72 = zPt f15 ((a0).toNat) 1 := by rw [em19]; exact (zUp_ff (m := m13)).trans (congrArg (fun q => zPt q ((a0).toNat) 1) fm13_72)
              clear em19
              refine zw_push zr_208_53 ?_
              refine zw_R zr_208_54 (by decide) zm_208 (v := (0, 1)) rfl ?_
              rw [← hQ]; exact ⟨_, rfl, by omega, by omega, hIm19, hFm19, by first | exact Or.inl ⟨rfl, by omega, rfl⟩ | exact Or.inr (zRi_1 hv0lp15_16 hG70 hG71 hG72 fm19_71 (by rw [fm19_72, hv1lp15_16]) (by omega) (by omega))⟩
            · intro h21
              refine zw_7 zr_208_22 rfl ?_
              refine zw_46r (s := 71) zr_208_23 rfl rfl rfl rfl ?_
              refine zw_push zr_208_26 ?_
              refine zw_3 zr_208_29 rfl ?_
              refine zw_18 zr_208_30 (by omega) ?_
              refine zw_3 zr_208_31 rfl ?_
              refine zw_16 zr_208_32 (by omega) ?_
              refine zw_7 zr_208_33 rfl ?_
              refine zw_46r (s := 70) zr_208_34 rfl rfl rfl rfl ?_
              refine zw_3 zr_208_37 rfl ?_
              refine zw_48 (c := 70) (len := 826) zr_208_38 rfl rfl (by omega) (by omega) ?_
              intro x22 ex22
              have bx22 := hIm13.ra (c := 70) (len := 826) (k := (i12).toNat) rfl (by omega)
              rw [← ex22] at bx22
              have qx22 : x22 = F70 (i12).toNat := by rw [← fm13_70]; exact ex22
              refine zw_49 (c := 71) (len := 1652) zr_208_39 rfl rfl (by omega) (by omega) ?_
              intro m23 em23
              have hIm23 : zInv m23 := by rw [em23]; exact hIm13.img (j := a0.toNat) (k := i12.toNat) (by omega) (by omega) (by omega) ex22
              have ksm23 : zKs m23 a0.toNat (i12 + 1).toNat := by rw [em23]; exact zKs.step hIm13 hks (by omega) (by omega) ex22 (by omega)
              have hFm23 : zFr W_208 m0 m23 := by rw [em23]; exact hFm13.any rfl
              have fm23_70 : m23 70 = F70 := by rw [em23, zUp_fn (by decide)]; exact fm13_70
              have fm23_71 : m23 71 = zPt f14 ((((826 * a0) + i12)).toNat) x22 := by rw [em23]; exact (zUp_ff (m := m13)).trans (congrArg (fun q => zPt q ((((826 * a0) + i12)).toNat) x22) fm13_71)
              have fm23_72 : m23 72 = f15 := by rw [em23, zUp_fn (by decide)]; exact fm13_72
              clear em23
              refine zw_15 (c := 1) (L' := [(2, 69), (0, a0), (0, (i12 + 1))]) zr_208_40 rfl (by decide) (by omega) rfl ?_
              refine zw_42 zr_208_43 ?_
              exact zw_less (L := [(2, 69), (0, a0), (0, (i12 + 1))]) ⟨Or.inr rfl, Or.inr rfl, Or.inr rfl, trivial⟩ (ihlp15_16 ((i12 + 1)) (zPt f14 ((((826 * a0) + i12)).toNat) x22) (f15) m23 hIm23 hFm23   fm23_70 fm23_71 fm23_72 (by omega) (by omega) (zIg_put hv0lp15_16 (by omega) (by omega) qx22) (hv1lp15_16) ksm23 (by omega))
        exact lp15_16 _ (0) (F71) (F72) m0 hI0 hF0  hG70 hG71 hG72 (by omega) (by omega) (zIg_0) (rfl) (fun k hk => absurd hk (Nat.not_lt_zero _)) (Nat.lt_succ_self _)
      · intro h28; omega

abbrev W_209 : List (Nat × Nat) := [(70, 1000)]
set_option maxHeartbeats 8000000 in
theorem th_209 {E : zE} {d : Nat} {m0 : zM} {a0 : Int} {F70 : Nat → Int} {F71 : Nat → Int} {F72 : Nat → Int} (hd : 3 ≤ d) (hI0 : zInv m0) (hG70 : m0 70 = F70) (hG71 : m0 71 = F71) (hG72 : m0 72 = F72) (ha0 : (-2147483648) ≤ a0 ∧ a0 ≤ 2147483647) : zC E d 209 [(2, 69), (0, a0)] m0 (fun v m' => ∃ r : Int, v = (0, r) ∧ (-3) ≤ r ∧ r ≤ 1 ∧ zInv m' ∧ zFr W_209 m0 m' ∧ (zRm m0 m' a0 r)) := by
  have hF0 : zFr W_209 m0 m0 := zFr.rfl
  generalize hQ : (fun (v : zV) (m' : zM) => ∃ r : Int, v = (0, r) ∧ (-3) ≤ r ∧ r ≤ 1 ∧ zInv m' ∧ zFr W_209 m0 m' ∧ (zRm m0 m' a0 r)) = Q
  show zW E d 209 0 [(2, 69), (0, a0), (9, 0)] [] m0 Q
  refine zw_3 zr_209_0 rfl ?_
  refine zw_36 zr_209_1 ?_
  refine zw_push zr_209_2 ?_
  refine zw_push zr_209_3 ?_
  refine zw_C zr_209_4 (Or.inr rfl) zm_140 rfl rfl ⟨Nat.le_of_ble_eq_true rfl, Nat.le_of_ble_eq_true rfl, Nat.le_of_ble_eq_true rfl, rfl, by decide⟩ (by omega) (P := (fun v m' => zW E (d) 209 7 [(2, 69), (0, a0), (9, 0)] (if v.1 = 9 then [] else v :: []) m' Q)) ?_ (fun _ _ h => h)
  generalize hQ1 : (fun v m' => zW E (d) 209 7 [(2, 69), (0, a0), (9, 0)] (if v.1 = 9 then [] else v :: []) m' Q) = Q1
  show zW E (d - 1) 140 0 [(1, a0), (9, 0), (1, 0), (9, 0), (1, 1), (9, 0)] [] m0 Q1
  refine zw_5 zr_140_0 rfl ?_
  refine zw_5 zr_140_1 rfl ?_
  refine zw_39_0 zr_140_2 zr_140_3 ?_ ?_
  · intro h1
    refine zw_push zr_140_17 ?_
    refine zw_R zr_140_18 (by decide) zm_140 (v := (0, 0)) (zRetB (by omega)) ?_
    rw [← hQ1]
    show zW E (d) 209 7 [(2, 69), (0, a0), (9, 0)] [(0, 0)] m0 Q
    refine zw_40_4 zr_209_7 ?_ ?_
    · intro h2; omega
    · intro h3
      refine zw_push zr_209_10 ?_
      refine zw_R zr_209_12 (by decide) zm_209 (v := (0, (-2))) rfl ?_
      rw [← hQ]; exact ⟨_, rfl, by omega, by omega, hI0, hF0, by first | exact Or.inl ⟨rfl, by omega, rfl⟩ | exact Or.inr (Or.inl ⟨rfl, by omega, by rw [hG72]; omega, rfl⟩) | exact Or.inr (Or.inr (zRm_1 zz hG71 hG70 (by omega) (by omega) (by rw [hG72]; omega)))⟩
  · intro h5
    refine zw_5 zr_140_6 rfl ?_
    refine zw_6 zr_140_7 rfl ?_
    refine zw_39_2 zr_140_9 zr_140_10 ?_ ?_
    · intro h6
      refine zw_push zr_140_17 ?_
      refine zw_R zr_140_18 (by decide) zm_140 (v := (0, 0)) (zRetB (by omega)) ?_
      rw [← hQ1]
      show zW E (d) 209 7 [(2, 69), (0, a0), (9, 0)] [(0, 0)] m0 Q
      refine zw_40_4 zr_209_7 ?_ ?_
      · intro h7; omega
      · intro h8
        refine zw_push zr_209_10 ?_
        refine zw_R zr_209_12 (by decide) zm_209 (v := (0, (-2))) rfl ?_
        rw [← hQ]; exact ⟨_, rfl, by omega, by omega, hI0, hF0, by first | exact Or.inl ⟨rfl, by omega, rfl⟩ | exact Or.inr (Or.inl ⟨rfl, by omega, by rw [hG72]; omega, rfl⟩) | exact Or.inr (Or.inr (zRm_1 zz hG71 hG70 (by omega) (by omega) (by rw [hG72]; omega)))⟩
    · intro h10
      refine zw_push zr_140_13 ?_
      refine zw_42 zr_140_14 ?_
      refine zw_R zr_140_18 (by decide) zm_140 (v := (0, 1)) (zRetB (by omega)) ?_
      rw [← hQ1]
      show zW E (d) 209 7 [(2, 69), (0, a0), (9, 0)] [(0, 1)] m0 Q
      refine zw_40_4 zr_209_7 ?_ ?_
      · intro h11
        refine zw_7 zr_209_13 rfl ?_
        refine zw_46r (s := 72) zr_209_14 rfl rfl rfl rfl ?_
        refine zw_3 zr_209_17 rfl ?_
        refine zw_52 (c := 72) (len := 2) zr_209_18 rfl rfl (by omega) (by omega) ?_
        intro x12 ex12
        have bx12 := ib_72 hI0 (k := (a0).toNat) (by omega)
        rw [← ex12] at bx12
        have qx12 : x12 = F72 (a0).toNat := by rw [← hG72]; exact ex12
        refine zw_40_4 zr_209_19 ?_ ?_
        · intro h13
          refine zw_push zr_209_25 ?_
          refine zw_9 (L' := [(2, 69), (0, a0), (0, 0)]) zr_209_26 (Nat.le_of_ble_eq_true rfl) rfl ?_
          have lp27_17 : ∀ (nlp27_17 : Nat) (i14 : Int) (f16 : Nat → Int) (m15 : zM), zInv m15 → zFr W_209 m0 m15 → m15 70 = f16 → m15 71 = F71 → m15 72 = F72 → 0 ≤ i14 → i14 ≤ 826 → (zIf f16 F71 a0 i14) → m15 72 a0.toNat ≠ 0 → (826 - i14).toNat < nlp27_17 → zW E (d) 209 27 [(2, 69), (0, a0), (0, i14)] [] m15 Q := by
            intro nlp27_17
            induction nlp27_17 with
            | zero =>
              intros
              exact absurd (by assumption : _ < 0) (Nat.not_lt_zero _)
            | succ nlp27_17 ihlp27_17 =>
              intro i14 f16 m15 hIm15 hFm15 fm15_70 fm15_71 fm15_72 li14 ui14 hv0lp27_17 hks hmlp27_17
              refine zw_3 zr_209_27 rfl ?_
              refine zw_push zr_209_28 ?_
              refine zw_41_3 zr_209_31 ?_ ?_
              · intro h19
                refine zw_push zr_209_58 ?_
                refine zw_R zr_209_59 (by decide) zm_209 (v := (0, 1)) rfl ?_
                rw [← hQ]; exact ⟨_, rfl, by omega, by omega, hIm15, hFm15, by first | exact Or.inl ⟨rfl, by omega, rfl⟩ | exact Or.inr (Or.inl ⟨rfl, by omega, by rw [hG72]; omega, rfl⟩) | exact Or.inr (Or.inr (zRm_1 hv0lp27_17 hG71 fm15_70 (by omega) (by omega) (by rw [hG72]; omega)))⟩
              · intro h21
                refine zw_7 zr_209_34 rfl ?_
                refine zw_46r (s := 70) zr_209_35 rfl rfl rfl rfl ?_
                refine zw_3 zr_209_38 rfl ?_
                refine zw_7 zr_209_39 rfl ?_
                refine zw_46r (s := 71) zr_209_40 rfl rfl rfl rfl ?_
                refine zw_push zr_209_43 ?_
                refine zw_3 zr_209_46 rfl ?_
                refine zw_18 zr_209_47 (by omega) ?_
                refine zw_3 zr_209_48 rfl ?_
                refine zw_16 zr_209_49 (by omega) ?_
                refine zw_48 (c := 71) (len := 1652) zr_209_50 rfl rfl (by omega) (by omega) ?_
                intro x22 ex22
                have bx22 := hIm15.ra (c := 71) (len := 1652) (k := (((826 * a0) + i14)).toNat) rfl (by omega)
                rw [← ex22] at bx22
                have qx22 : x22 = F71 (((826 * a0) + i14)).toNat := by rw [← fm15_71]; exact ex22
                refine zw_49 (c := 70) (len := 826) zr_209_51 rfl rfl (by omega) (by omega) ?_
                intro m23 em23
                have hIm23 : zInv m23 := by rw [em23]; exact hIm15.frm (j := a0.toNat) (k := i14.toNat) (by omega) hks (by omega) (by omega) ex22
                have ksm23 : m23 72 a0.toNat ≠ 0 := by rw [em23, zUp_ne (by omega)]; exact hks
                have hFm23 : zFr W_209 m0 m23 := by rw [em23]; exact hFm15.any rfl
                have fm23_70 : m23 70 = zPt f16 ((i14).toNat) x22 := by rw [em23]; exact (zUp_ff (m := m15)).trans (congrArg (fun q => zPt q ((i14).toNat) x22) fm15_70)
                have fm23_71 : m23 71 = F71 := by rw [em23, zUp_fn (by decide)]; exact fm15_71
                have fm23_72 : m23 72 = F72 := by rw [em23, zUp_fn (by decide)]; exact fm15_72
                clear em23
                refine zw_15 (c := 1) (L' := [(2, 69), (0, a0), (0, (i14 + 1))]) zr_209_52 rfl (by decide) (by omega) rfl ?_
                refine zw_42 zr_209_55 ?_
                exact zw_less (L := [(2, 69), (0, a0), (0, (i14 + 1))]) ⟨Or.inr rfl, Or.inr rfl, Or.inr rfl, trivial⟩ (ihlp27_17 ((i14 + 1)) (zPt f16 ((i14).toNat) x22) m23 hIm23 hFm23   fm23_70 fm23_71 fm23_72 (by omega) (by omega) (zIf_put hv0lp27_17 (by omega) (by omega) qx22) ksm23 (by omega))
          exact lp27_17 _ (0) (F70) m0 hI0 hF0  hG70 hG71 hG72 (by omega) (by omega) (zIf_0) (by omega) (Nat.lt_succ_self _)
        · intro h26
          refine zw_push zr_209_22 ?_
          refine zw_R zr_209_24 (by decide) zm_209 (v := (0, (-3))) rfl ?_
          rw [← hQ]; exact ⟨_, rfl, by omega, by omega, hI0, hF0, by first | exact Or.inl ⟨rfl, by omega, rfl⟩ | exact Or.inr (Or.inl ⟨rfl, by omega, by rw [hG72]; omega, rfl⟩) | exact Or.inr (Or.inr (zRm_1 zz hG71 hG70 (by omega) (by omega) (by rw [hG72]; omega)))⟩
      · intro h28; omega
