/-! the kept record -/
def zKs (m : zM) (j n : Nat) : Prop := ∀ k, k < n → ∀ lo hi, zbN k = some (lo, hi) → lo ≤ m 71 (826 * j + k) ∧ m 71 (826 * j + k) ≤ hi
theorem zbN_lt {k : Nat} {lo hi : Int} (h : zbN k = some (lo, hi)) : k < 826 := by
  by_cases hk : k < 826
  · exact hk
  · exfalso
    have : zbN k = none := by
      unfold zbN
      repeat (first | rw [if_neg (by omega)])
    rw [this] at h
    cases h
theorem zInv.img {m : zM} (h : zInv m) {j k kk : Nat} {v : Int} (hj : j < 2) (hk : k < 826) (hkk : kk = 826 * j + k) (hv : v = m 70 k) : zInv (zUp m 71 kk v) := by
  refine ⟨fun r' k' lo hi hb => ?_, fun j' hj' hm k' lo hi hb => ?_, fun r' k' => ?_⟩
  · by_cases hc : r' = 71 ∧ k' = kk
    · obtain ⟨rfl, rfl⟩ := hc
      cases hb
    · rw [zUp_ne hc]
      exact h.1 r' k' lo hi hb
  · rw [zUp_ne (by omega)] at hm
    have hk' := zbN_lt hb
    by_cases hc : (71 : Nat) = 71 ∧ 826 * j' + k' = kk
    · have e1 : j' = j ∧ k' = k := by omega
      obtain ⟨rfl, rfl⟩ := e1
      rw [hkk, zUp_eq, hv]
      exact h.1 70 k' lo hi hb
    · rw [zUp_ne hc]
      exact h.2.1 j' hj' hm k' lo hi hb
  · by_cases hc : r' = 71 ∧ k' = kk
    · obtain ⟨rfl, rfl⟩ := hc
      rw [zUp_eq]
      exact zRg_i (by rw [hv]; exact h.ra (c := 70) (len := 826) rfl hk)
    · rw [zUp_ne hc]
      exact h.2.2 r' k'
theorem zKs.step {m : zM} (h : zInv m) {j k kk n : Nat} {v : Int} (hs : zKs m j k) (hk : k < 826) (hkk : kk = 826 * j + k) (hv : v = m 70 k) (hn : n = k + 1) : zKs (zUp m 71 kk v) j n := by
  intro k' hk' lo hi hb
  by_cases hc : k' = k
  · subst hc
    rw [hkk, zUp_eq, hv]
    exact h.1 70 k' lo hi hb
  · rw [zUp_ne (by omega)]
    exact hs k' (by omega) lo hi hb
theorem zInv.kept {m : zM} (h : zInv m) {j n : Nat} (hj : j < 2) (hn : 826 ≤ n) (hs : zKs m j n) : zInv (zUp m 72 j 1) := by
  refine ⟨fun r' k' lo hi hb => ?_, fun j' hj' hm k' lo hi hb => ?_, fun r' k' => ?_⟩
  · by_cases hc : r' = 72 ∧ k' = j
    · obtain ⟨rfl, rfl⟩ := hc
      rw [zUp_eq]
      have hb : (if k' < 2 then some ((0 : Int), (1 : Int)) else none) = some (lo, hi) := hb
      rw [if_pos hj] at hb
      cases hb
      decide
    · rw [zUp_ne hc]
      exact h.1 r' k' lo hi hb
  · rw [zUp_ne (by omega)]
    by_cases hc : j' = j
    · subst hc
      exact hs k' (by have := zbN_lt hb; omega) lo hi hb
    · rw [zUp_ne (fun q => hc q.2)] at hm
      exact h.2.1 j' hj' hm k' lo hi hb
  · by_cases hc : r' = 72 ∧ k' = j
    · obtain ⟨rfl, rfl⟩ := hc
      rw [zUp_eq]
      exact zRg_i (by decide)
    · rw [zUp_ne hc]
      exact h.2.2 r' k'
theorem zInv.frm {m : zM} (h : zInv m) {j k kk : Nat} {v : Int} (hj : j < 2) (hm : m 72 j ≠ 0) (hk : k < 826) (hkk : kk = 826 * j + k) (hv : v = m 71 kk) : zInv (zUp m 70 k v) := by
  refine h.up (fun lo hi hb => ?_) (zRg_i ?_) (by decide) (by decide)
  · rw [hv, hkk]
    exact h.2.1 j hj hm k lo hi hb
  · rw [hv]
    exact h.ra (c := 71) (len := 1652) rfl (by omega)
abbrev W_208 : List (Nat × Nat) := [(71, 1000), (72, 1000)]
set_option maxHeartbeats 8000000 in
theorem th_208 {E : zE} {d : Nat} {m0 : zM} {a0 : Int} (hd : 3 ≤ d) (hI0 : zInv m0) (ha0 : (-2147483648) ≤ a0 ∧ a0 ≤ 2147483647) : zC E d 208 [(2, 69), (0, a0)] m0 (fun v m' => ∃ r : Int, v = (0, r) ∧ (-2) ≤ r ∧ r ≤ 1 ∧ zInv m' ∧ zFr W_208 m0 m') := by
  have hF0 : zFr W_208 m0 m0 := zFr.rfl
  generalize hQ : (fun (v : zV) (m' : zM) => ∃ r : Int, v = (0, r) ∧ (-2) ≤ r ∧ r ≤ 1 ∧ zInv m' ∧ zFr W_208 m0 m') = Q
  show zW E d 208 0 [(2, 69), (0, a0), (9, 0)] [] m0 Q
  refine zw_3 zr_208_0 rfl ?_
  refine zw_36 zr_208_1 ?_
  refine zw_push zr_208_2 ?_
  refine zw_push zr_208_3 ?_
  refine zw_C zr_208_4 (Or.inr rfl) zm_140 rfl rfl ⟨Nat.le_of_ble_eq_true rfl, Nat.le_of_ble_eq_true rfl, Nat.le_of_ble_eq_true rfl, rfl, by decide⟩ (by omega) (P := (fun v m' => zW E (d) 208 7 [(2, 69), (0, a0), (9, 0)] (if v.1 = 9 then [] else v :: []) m' Q)) ?_ (fun _ _ h => h)
  generalize hQ1 : (fun v m' => zW E (d) 208 7 [(2, 69), (0, a0), (9, 0)] (if v.1 = 9 then [] else v :: []) m' Q) = Q1
  show zW E (d - 1) 140 0 [(1, a0), (9, 0), (1, 0), (9, 0), (1, 1), (9, 0)] [] m0 Q1
  refine zw_5 zr_140_0 rfl ?_
  refine zw_5 zr_140_1 rfl ?_
  refine zw_39_0 zr_140_2 zr_140_3 ?_ ?_
  · intro h1
    refine zw_push zr_140_17 ?_
    refine zw_R zr_140_18 (by decide) zm_140 (v := (0, 0)) (zRetB (by omega)) ?_
    rw [← hQ1]
    show zW E (d) 208 7 [(2, 69), (0, a0), (9, 0)] [(0, 0)] m0 Q
    refine zw_40_4 zr_208_7 ?_ ?_
    · intro h2; omega
    · intro h3
      refine zw_push zr_208_10 ?_
      refine zw_R zr_208_12 (by decide) zm_208 (v := (0, (-2))) rfl ?_
      rw [← hQ]; exact ⟨_, rfl, by omega, by omega, hI0, hF0⟩
  · intro h4
    refine zw_5 zr_140_6 rfl ?_
    refine zw_6 zr_140_7 rfl ?_
    refine zw_39_2 zr_140_9 zr_140_10 ?_ ?_
    · intro h5
      refine zw_push zr_140_17 ?_
      refine zw_R zr_140_18 (by decide) zm_140 (v := (0, 0)) (zRetB (by omega)) ?_
      rw [← hQ1]
      show zW E (d) 208 7 [(2, 69), (0, a0), (9, 0)] [(0, 0)] m0 Q
      refine zw_40_4 zr_208_7 ?_ ?_
      · intro h6; omega
      · intro h7
        refine zw_push zr_208_10 ?_
        refine zw_R zr_208_12 (by decide) zm_208 (v := (0, (-2))) rfl ?_
        rw [← hQ]; exact ⟨_, rfl, by omega, by omega, hI0, hF0⟩
    · intro h8
      refine zw_push zr_140_13 ?_
      refine zw_42 zr_140_14 ?_
      refine zw_R zr_140_18 (by decide) zm_140 (v := (0, 1)) (zRetB (by omega)) ?_
      rw [← hQ1]
      show zW E (d) 208 7 [(2, 69), (0, a0), (9, 0)] [(0, 1)] m0 Q
      refine zw_40_4 zr_208_7 ?_ ?_
      · intro h9
        refine zw_push zr_208_13 ?_
        refine zw_9 (L' := [(2, 69), (0, a0), (0, 0)]) zr_208_14 (Nat.le_of_ble_eq_true rfl) rfl ?_
        have lp15_12 : ∀ (nlp15_12 : Nat) (i10 : Int) (m11 : zM), zInv m11 → zFr W_208 m0 m11 → 0 ≤ i10 → i10 ≤ 826 → zKs m11 a0.toNat i10.toNat → (826 - i10).toNat < nlp15_12 → zW E (d) 208 15 [(2, 69), (0, a0), (0, i10)] [] m11 Q := by
          intro nlp15_12
          induction nlp15_12 with
          | zero =>
            intros
            exact absurd (by assumption : _ < 0) (Nat.not_lt_zero _)
          | succ nlp15_12 ihlp15_12 =>
            intro i10 m11 hIm11 hFm11 li10 ui10 hks hmlp15_12
            refine zw_3 zr_208_15 rfl ?_
            refine zw_push zr_208_16 ?_
            refine zw_41_3 zr_208_19 ?_ ?_
            · intro h14
              refine zw_7 zr_208_46 rfl ?_
              refine zw_46r (s := 72) zr_208_47 rfl rfl rfl rfl ?_
              refine zw_3 zr_208_50 rfl ?_
              refine zw_push zr_208_51 ?_
              refine zw_53 (c := 72) (len := 2) zr_208_52 rfl rfl (by omega) (by omega) (by omega) ?_
              intro m15 em15
              have hIm15 : zInv m15 := by rw [em15]; exact zInv.kept hIm11 (by omega) (by omega) hks
              have hFm15 : zFr W_208 m0 m15 := by rw [em15]; exact hFm11.any rfl
              clear em15
              refine zw_push zr_208_53 ?_
              refine zw_R zr_208_54 (by decide) zm_208 (v := (0, 1)) rfl ?_
              rw [← hQ]; exact ⟨_, rfl, by omega, by omega, hIm15, hFm15⟩
            · intro h16
              refine zw_7 zr_208_22 rfl ?_
              refine zw_46r (s := 71) zr_208_23 rfl rfl rfl rfl ?_
              refine zw_push zr_208_26 ?_
              refine zw_3 zr_208_29 rfl ?_
              refine zw_18 zr_208_30 (by omega) ?_
              refine zw_3 zr_208_31 rfl ?_
              refine zw_16 zr_208_32 (by omega) ?_
              refine zw_7 zr_208_33 rfl ?_
              refine zw_46r (s := 70) zr_208_34 rfl rfl rfl rfl ?_
              refine zw_3 zr_208_37 rfl ?_
              refine zw_48 (c := 70) (len := 826) zr_208_38 rfl rfl (by omega) (by omega) ?_
              intro x17 ex17
              have bx17 := hIm11.ra (c := 70) (len := 826) (k := (i10).toNat) rfl (by omega)
              rw [← ex17] at bx17
              refine zw_49 (c := 71) (len := 1652) zr_208_39 rfl rfl (by omega) (by omega) ?_
              intro m18 em18
              have hIm18 : zInv m18 := by rw [em18]; exact hIm11.img (j := a0.toNat) (k := i10.toNat) (by omega) (by omega) (by omega) ex17
              have ksm18 : zKs m18 a0.toNat (i10 + 1).toNat := by rw [em18]; exact zKs.step hIm11 hks (by omega) (by omega) ex17 (by omega)
              have hFm18 : zFr W_208 m0 m18 := by rw [em18]; exact hFm11.any rfl
              clear em18
              refine zw_15 (c := 1) (L' := [(2, 69), (0, a0), (0, (i10 + 1))]) zr_208_40 rfl (by decide) (by omega) rfl ?_
              refine zw_42 zr_208_43 ?_
              exact zw_less (L := [(2, 69), (0, a0), (0, (i10 + 1))]) ⟨Or.inr rfl, Or.inr rfl, Or.inr rfl, trivial⟩ (ihlp15_12 ((i10 + 1)) m18 hIm18 hFm18   (by omega) (by omega) ksm18 (by omega))
        exact lp15_12 _ (0) m0 hI0 hF0   (by omega) (by omega) (fun k hk => absurd hk (Nat.not_lt_zero _)) (Nat.lt_succ_self _)
      · intro h19; omega

abbrev W_209 : List (Nat × Nat) := [(70, 1000)]
set_option maxHeartbeats 8000000 in
theorem th_209 {E : zE} {d : Nat} {m0 : zM} {a0 : Int} (hd : 3 ≤ d) (hI0 : zInv m0) (ha0 : (-2147483648) ≤ a0 ∧ a0 ≤ 2147483647) : zC E d 209 [(2, 69), (0, a0)] m0 (fun v m' => ∃ r : Int, v = (0, r) ∧ (-3) ≤ r ∧ r ≤ 1 ∧ zInv m' ∧ zFr W_209 m0 m') := by
  have hF0 : zFr W_209 m0 m0 := zFr.rfl
  generalize hQ : (fun (v : zV) (m' : zM) => ∃ r : Int, v = (0, r) ∧ (-3) ≤ r ∧ r ≤ 1 ∧ zInv m' ∧ zFr W_209 m0 m') = Q
  show zW E d 209 0 [(2, 69), (0, a0), (9, 0)] [] m0 Q
  refine zw_3 zr_209_0 rfl ?_
  refine zw_36 zr_209_1 ?_
  refine zw_push zr_209_2 ?_
  refine zw_push zr_209_3 ?_
  refine zw_C zr_209_4 (Or.inr rfl) zm_140 rfl rfl ⟨Nat.le_of_ble_eq_true rfl, Nat.le_of_ble_eq_true rfl, Nat.le_of_ble_eq_true rfl, rfl, by decide⟩ (by omega) (P := (fun v m' => zW E (d) 209 7 [(2, 69), (0, a0), (9, 0)] (if v.1 = 9 then [] else v :: []) m' Q)) ?_ (fun _ _ h => h)
  generalize hQ1 : (fun v m' => zW E (d) 209 7 [(2, 69), (0, a0), (9, 0)] (if v.1 = 9 then [] else v :: []) m' Q) = Q1
  show zW E (d - 1) 140 0 [(1, a0), (9, 0), (1, 0), (9, 0), (1, 1), (9, 0)] [] m0 Q1
  refine zw_5 zr_140_0 rfl ?_
  refine zw_5 zr_140_1 rfl ?_
  refine zw_39_0 zr_140_2 zr_140_3 ?_ ?_
  · intro h1
    refine zw_push zr_140_17 ?_
    refine zw_R zr_140_18 (by decide) zm_140 (v := (0, 0)) (zRetB (by omega)) ?_
    rw [← hQ1]
    show zW E (d) 209 7 [(2, 69), (0, a0), (9, 0)] [(0, 0)] m0 Q
    refine zw_40_4 zr_209_7 ?_ ?_
    · intro h2; omega
    · intro h3
      refine zw_push zr_209_10 ?_
      refine zw_R zr_209_12 (by decide) zm_209 (v := (0, (-2))) rfl ?_
      rw [← hQ]; exact ⟨_, rfl, by omega, by omega, hI0, hF0⟩
  · intro h4
    refine zw_5 zr_140_6 rfl ?_
    refine zw_6 zr_140_7 rfl ?_
    refine zw_39_2 zr_140_9 zr_140_10 ?_ ?_
    · intro h5
      refine zw_push zr_140_17 ?_
      refine zw_R zr_140_18 (by decide) zm_140 (v := (0, 0)) (zRetB (by omega)) ?_
      rw [← hQ1]
      show zW E (d) 209 7 [(2, 69), (0, a0), (9, 0)] [(0, 0)] m0 Q
      refine zw_40_4 zr_209_7 ?_ ?_
      · intro h6; omega
      · intro h7
        refine zw_push zr_209_10 ?_
        refine zw_R zr_209_12 (by decide) zm_209 (v := (0, (-2))) rfl ?_
        rw [← hQ]; exact ⟨_, rfl, by omega, by omega, hI0, hF0⟩
    · intro h8
      refine zw_push zr_140_13 ?_
      refine zw_42 zr_140_14 ?_
      refine zw_R zr_140_18 (by decide) zm_140 (v := (0, 1)) (zRetB (by omega)) ?_
      rw [← hQ1]
      show zW E (d) 209 7 [(2, 69), (0, a0), (9, 0)] [(0, 1)] m0 Q
      refine zw_40_4 zr_209_7 ?_ ?_
      · intro h9
        refine zw_7 zr_209_13 rfl ?_
        refine zw_46r (s := 72) zr_209_14 rfl rfl rfl rfl ?_
        refine zw_3 zr_209_17 rfl ?_
        refine zw_52 (c := 72) (len := 2) zr_209_18 rfl rfl (by omega) (by omega) ?_
        intro x10 ex10
        have bx10 := ib_72 hI0 (k := (a0).toNat) (by omega)
        rw [← ex10] at bx10
        refine zw_40_4 zr_209_19 ?_ ?_
        · intro h11
          refine zw_push zr_209_25 ?_
          refine zw_9 (L' := [(2, 69), (0, a0), (0, 0)]) zr_209_26 (Nat.le_of_ble_eq_true rfl) rfl ?_
          have lp27_14 : ∀ (nlp27_14 : Nat) (i12 : Int) (m13 : zM), zInv m13 → zFr W_209 m0 m13 → 0 ≤ i12 → i12 ≤ 826 → m13 72 a0.toNat ≠ 0 → (826 - i12).toNat < nlp27_14 → zW E (d) 209 27 [(2, 69), (0, a0), (0, i12)] [] m13 Q := by
            intro nlp27_14
            induction nlp27_14 with
            | zero =>
              intros
              exact absurd (by assumption : _ < 0) (Nat.not_lt_zero _)
            | succ nlp27_14 ihlp27_14 =>
              intro i12 m13 hIm13 hFm13 li12 ui12 hks hmlp27_14
              refine zw_3 zr_209_27 rfl ?_
              refine zw_push zr_209_28 ?_
              refine zw_41_3 zr_209_31 ?_ ?_
              · intro h16
                refine zw_push zr_209_58 ?_
                refine zw_R zr_209_59 (by decide) zm_209 (v := (0, 1)) rfl ?_
                rw [← hQ]; exact ⟨_, rfl, by omega, by omega, hIm13, hFm13⟩
              · intro h17
                refine zw_7 zr_209_34 rfl ?_
                refine zw_46r (s := 70) zr_209_35 rfl rfl rfl rfl ?_
                refine zw_3 zr_209_38 rfl ?_
                refine zw_7 zr_209_39 rfl ?_
                refine zw_46r (s := 71) zr_209_40 rfl rfl rfl rfl ?_
                refine zw_push zr_209_43 ?_
                refine zw_3 zr_209_46 rfl ?_
                refine zw_18 zr_209_47 (by omega) ?_
                refine zw_3 zr_209_48 rfl ?_
                refine zw_16 zr_209_49 (by omega) ?_
                refine zw_48 (c := 71) (len := 1652) zr_209_50 rfl rfl (by omega) (by omega) ?_
                intro x18 ex18
                have bx18 := hIm13.ra (c := 71) (len := 1652) (k := (((826 * a0) + i12)).toNat) rfl (by omega)
                rw [← ex18] at bx18
                refine zw_49 (c := 70) (len := 826) zr_209_51 rfl rfl (by omega) (by omega) ?_
                intro m19 em19
                have hIm19 : zInv m19 := by rw [em19]; exact hIm13.frm (j := a0.toNat) (k := i12.toNat) (by omega) hks (by omega) (by omega) ex18
                have ksm19 : m19 72 a0.toNat ≠ 0 := by rw [em19, zUp_ne (by omega)]; exact hks
                have hFm19 : zFr W_209 m0 m19 := by rw [em19]; exact hFm13.any rfl
                clear em19
                refine zw_15 (c := 1) (L' := [(2, 69), (0, a0), (0, (i12 + 1))]) zr_209_52 rfl (by decide) (by omega) rfl ?_
                refine zw_42 zr_209_55 ?_
                exact zw_less (L := [(2, 69), (0, a0), (0, (i12 + 1))]) ⟨Or.inr rfl, Or.inr rfl, Or.inr rfl, trivial⟩ (ihlp27_14 ((i12 + 1)) m19 hIm19 hFm19   (by omega) (by omega) ksm19 (by omega))
          exact lp27_14 _ (0) m0 hI0 hF0   (by omega) (by omega) (by omega) (Nat.lt_succ_self _)
        · intro h20
          refine zw_push zr_209_22 ?_
          refine zw_R zr_209_24 (by decide) zm_209 (v := (0, (-3))) rfl ?_
          rw [← hQ]; exact ⟨_, rfl, by omega, by omega, hI0, hF0⟩
      · intro h21; omega
