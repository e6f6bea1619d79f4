abbrev W_0 : List (Nat × Nat) := [(1, 0), (1, 1), (1, 2), (1, 3), (1, 4), (1, 5), (2, 1000), (3, 1000), (4, 1000), (5, 1000), (6, 1000), (7, 1000), (8, 1000), (9, 1000), (10, 1000), (11, 1000), (12, 1000), (13, 1000), (15, 0), (15, 1), (15, 2), (15, 3), (15, 4), (15, 5), (16, 1000), (17, 1000), (18, 1000), (19, 1000), (20, 1000), (21, 1000), (22, 1000), (23, 1000), (24, 1000), (25, 1000), (26, 1000), (27, 1000), (28, 0), (28, 1), (28, 2), (28, 3), (28, 4), (28, 5), (29, 1000), (30, 1000), (31, 1000), (32, 1000), (33, 1000), (34, 1000), (35, 1000), (36, 1000), (37, 1000), (38, 1000), (39, 1000), (40, 1000), (41, 1000), (42, 0), (42, 1), (43, 5), (44, 1000), (45, 1), (45, 5), (45, 6), (45, 7), (45, 8), (45, 9), (46, 1000), (47, 1000), (48, 1000), (49, 1000), (50, 1000), (51, 1000), (52, 0), (52, 1), (52, 2), (53, 1000), (54, 1000), (55, 5), (56, 1000), (57, 1000), (58, 1000), (59, 1000), (61, 1000), (62, 1000), (63, 0), (64, 1000), (65, 1000), (66, 1000), (67, 1000), (68, 1000), (69, 3), (69, 4), (69, 5), (69, 6), (69, 7), (69, 9), (69, 11), (69, 13), (69, 17), (69, 18), (69, 23), (69, 24), (70, 1000), (71, 1000), (72, 1000), (73, 1000), (74, 1000), (75, 1000), (76, 1000), (77, 1000), (78, 1000), (79, 1000), (80, 1000), (81, 1000), (82, 1000), (83, 1000), (84, 1000)]
set_option maxHeartbeats 40000000 in
theorem th_0 {E : zE} {d : Nat} {m0 : zM} (hd : 97 ≤ d) (hI0 : zInv m0) (hK0 : qK m0) {n1 : Int} (hn1 : (E.1 : Int) = n1) (hn2 : n1 ≤ 3072) : zW E d 0 18 [(6, 0), (2, 0), (2, 69), (0, 0)] [] m0 (fun v m' => ∃ r : Int, v = (0, r) ∧ 1 ≤ r ∧ r ≤ 1 ∧ zInv m' ∧ zFr W_0 m0 m') := by
  have hF0 : zFr W_0 m0 m0 := zFr.rfl
  generalize hQ : (fun (v : zV) (m' : zM) => ∃ r : Int, v = (0, r) ∧ 1 ≤ r ∧ r ≤ 1 ∧ zInv m' ∧ zFr W_0 m0 m') = Q
  have lp18_4 : ∀ (nlp18_4 : Nat) (i2 : Int) (m3 : zM), zInv m3 → zFr W_0 m0 m3 → 0 ≤ i2 → i2 ≤ 9999 → (qK m3) → (3078 - i2).toNat < nlp18_4 → zW E (d) 0 18 [(6, 0), (2, 0), (2, 69), (0, i2)] [] m3 Q := by
    intro nlp18_4
    induction nlp18_4 with
    | zero =>
      intros
      exact absurd (by assumption : _ < 0) (Nat.not_lt_zero _)
    | succ nlp18_4 ihlp18_4 =>
      intro i2 m3 hIm3 hFm3 li2 ui2 hv0lp18_4 hmlp18_4
      refine zw_3 zr_0_18 rfl ?_
      refine zw_7s zr_0_19 rfl ?_
      refine zw_101n zr_0_20 rfl (by omega) hn1 ?_
      refine zw_push zr_0_21 ?_
      refine zw_17 zr_0_23 (by omega) ?_
      refine zw_41_2 zr_0_24 ?_ ?_
      · intro h6
        refine zw_push zr_0_1244 ?_
        refine zw_R zr_0_1245 (by decide) zm_0 (v := (0, 1)) (zRetB (by omega)) ?_
        rw [← hQ]; exact ⟨_, rfl, by omega, by omega, hIm3, hFm3⟩
      · intro h7
        refine zw_7s zr_0_27 rfl ?_
        refine zw_3 zr_0_28 rfl ?_
        refine zw_100 zr_0_29 rfl (by omega) (by omega) ?_
        intro x8 ex8 hx8a hx8b
        clear ex8
        refine zw_push zr_0_30 ?_
        refine zw_21m zr_0_32 (by omega) (by omega) ?_
        intro x9 hx9a hx9b
        by_cases h10 : x9 = 0
        · refine zw_111 (t := 184) zr_0_33 (by rw [h10]; rfl) ?_
          refine zw_7 zr_0_184 rfl ?_
          refine zw_7s zr_0_185 rfl ?_
          refine zw_3 zr_0_186 rfl ?_
          refine zw_push zr_0_187 ?_
          refine zw_16 zr_0_188 (by omega) ?_
          refine zw_100 zr_0_189 rfl (by omega) (by omega) ?_
          intro x11 ex11 hx11a hx11b
          obtain ⟨f12, ef12⟩ : ∃ v, m3 1 0 = v := ⟨_, rfl⟩
          have bf12 := ib_1_0 hIm3
          rw [ef12] at bf12
          refine zw_C zr_0_190 (Or.inl rfl) zm_99 rfl rfl ⟨Nat.le_of_ble_eq_true rfl, Nat.le_of_ble_eq_true rfl, Nat.le_of_ble_eq_true rfl, rfl, by decide⟩ (by omega) (th_99 (d := d - 1) (by omega) hIm3 (a0 := x11) (g0 := f12)  (F2 := m3 2) ef12 rfl (by omega) ) ?_
          rintro _ m13 ⟨r14, rfl, hr14a, hr14b, hIm13, gm13, po0_r14, po1_r14, po2_r14⟩
          have hFm13 : zFr W_0 m0 m13 := hFm3.trans gm13 rfl
          show zW E (d) 0 193 [(6, 0), (2, 0), (2, 69), (0, i2)] [(0, r14)] m13 Q
          refine zw_115 zr_0_193 rfl ?_
          refine zw_7 zr_0_194 rfl ?_
          refine zw_7s zr_0_195 rfl ?_
          refine zw_3 zr_0_196 rfl ?_
          refine zw_push zr_0_197 ?_
          refine zw_16 zr_0_198 (by omega) ?_
          refine zw_100k zr_0_199 rfl (by omega) (by omega) ex11.symm ?_
          obtain ⟨f15, ef15⟩ : ∃ v, m13 70 822 = v := ⟨_, rfl⟩
          have bf15 : 0 ≤ m13 70 822 ∧ m13 70 822 ≤ 10 := ib_70_players hIm13 (by omega)
          rw [ef15] at bf15
          refine zw_C zr_0_200 (Or.inl rfl) zm_145 rfl rfl ⟨Nat.le_of_ble_eq_true rfl, Nat.le_of_ble_eq_true rfl, Nat.le_of_ble_eq_true rfl, rfl, by decide⟩ (by omega) (th_145 (d := d - 1) (by omega) hIm13 (a0 := x11) (g0 := f15)  (F70 := m13 70) ef15 rfl (by omega) ) ?_
          rintro _ m16 ⟨r17, rfl, hr17a, hr17b, hIm16, gm16, po0_r17, po1_r17⟩
          have hFm16 : zFr W_0 m0 m16 := hFm13.trans gm16 rfl
          show zW E (d) 0 203 [(6, 0), (2, 0), (2, 69), (0, i2)] [(0, r17)] m16 Q
          obtain ⟨hkz18, hrz18⟩ := zk_player hIm3 hv0lp18_4 gm13 ef12 po0_r14 po1_r14 po2_r14 gm16 ef15 po0_r17 po1_r17
          refine zw_115 zr_0_203 rfl ?_
          refine zw_42 zr_0_204 ?_
          refine zw_15 (c := 6) (L' := [(6, 0), (2, 0), (2, 69), (0, (i2 + 6))]) zr_0_1238 rfl (by decide) (by omega) rfl ?_
          refine zw_42 zr_0_1241 ?_
          exact zw_less (L := [(6, 0), (2, 0), (2, 69), (0, (i2 + 6))]) ⟨Or.inr rfl, Or.inr rfl, Or.inr rfl, Or.inr rfl, trivial⟩ (ihlp18_4 ((i2 + 6)) m16 hIm16 hFm16   (by omega) (by omega) (by assumption) (by omega))
        by_cases h20 : x9 = 1
        · refine zw_111 (t := 207) zr_0_33 (by rw [h20]; rfl) ?_
          refine zw_7 zr_0_207 rfl ?_
          refine zw_7s zr_0_208 rfl ?_
          refine zw_3 zr_0_209 rfl ?_
          refine zw_push zr_0_210 ?_
          refine zw_16 zr_0_211 (by omega) ?_
          refine zw_100 zr_0_212 rfl (by omega) (by omega) ?_
          intro x21 ex21 hx21a hx21b
          refine zw_7s zr_0_213 rfl ?_
          refine zw_3 zr_0_214 rfl ?_
          refine zw_push zr_0_215 ?_
          refine zw_16 zr_0_216 (by omega) ?_
          refine zw_100 zr_0_217 rfl (by omega) (by omega) ?_
          intro x22 ex22 hx22a hx22b
          refine zw_7s zr_0_218 rfl ?_
          refine zw_3 zr_0_219 rfl ?_
          refine zw_push zr_0_220 ?_
          refine zw_16 zr_0_221 (by omega) ?_
          refine zw_100 zr_0_222 rfl (by omega) (by omega) ?_
          intro x23 ex23 hx23a hx23b
          refine zw_7s zr_0_223 rfl ?_
          refine zw_3 zr_0_224 rfl ?_
          refine zw_push zr_0_225 ?_
          refine zw_16 zr_0_226 (by omega) ?_
          refine zw_100 zr_0_227 rfl (by omega) (by omega) ?_
          intro x24 ex24 hx24a hx24b
          refine zw_7s zr_0_228 rfl ?_
          refine zw_3 zr_0_229 rfl ?_
          refine zw_push zr_0_230 ?_
          refine zw_16 zr_0_231 (by omega) ?_
          refine zw_100 zr_0_232 rfl (by omega) (by omega) ?_
          intro x25 ex25 hx25a hx25b
          refine zw_40_1 zr_0_233 ?_ ?_
          · intro h26
            refine zw_push zr_0_240 ?_
            obtain ⟨f27, ef27⟩ : ∃ v, m3 1 0 = v := ⟨_, rfl⟩
            have bf27 := ib_1_0 hIm3
            rw [ef27] at bf27
            obtain ⟨f28, ef28⟩ : ∃ v, m3 1 1 = v := ⟨_, rfl⟩
            have bf28 := ib_1_1 hIm3
            rw [ef28] at bf28
            refine zw_C zr_0_241 (Or.inl rfl) zm_102 rfl rfl ⟨Nat.le_of_ble_eq_true rfl, Nat.le_of_ble_eq_true rfl, Nat.le_of_ble_eq_true rfl, rfl, by decide⟩ (by omega) (th_102 (d := d - 1) (by omega) hIm3 (a0 := x21) (a1 := x22) (a2 := x23) (a3 := x24) (a4 := 0) (g0 := f27) (g1 := f28)  (F5 := m3 5) (F6 := m3 6) (F7 := m3 7) (F8 := m3 8) ef27 ef28 rfl rfl rfl rfl (by omega) (by omega) (by omega) (by omega) (by omega) ) ?_
            rintro _ m29 ⟨r30, rfl, hr30a, hr30b, hIm29, gm29, po0_r30, po1_r30, po2_r30, po3_r30, po4_r30, po5_r30⟩
            have hFm29 : zFr W_0 m0 m29 := hFm3.trans gm29 rfl
            have km29_1_0 : m29 1 0 = f27 := (gm29 1 0 rfl).trans ef27
            show zW E (d) 0 244 [(6, 0), (2, 0), (2, 69), (0, i2)] [(0, r30)] m29 Q
            refine zw_7 zr_0_244 rfl ?_
            refine zw_7s zr_0_245 rfl ?_
            refine zw_3 zr_0_246 rfl ?_
            refine zw_push zr_0_247 ?_
            refine zw_16 zr_0_248 (by omega) ?_
            refine zw_100k zr_0_249 rfl (by omega) (by omega) ex21.symm ?_
            refine zw_7s zr_0_250 rfl ?_
            refine zw_3 zr_0_251 rfl ?_
            refine zw_push zr_0_252 ?_
            refine zw_16 zr_0_253 (by omega) ?_
            refine zw_100k zr_0_254 rfl (by omega) (by omega) ex22.symm ?_
            refine zw_7s zr_0_255 rfl ?_
            refine zw_3 zr_0_256 rfl ?_
            refine zw_push zr_0_257 ?_
            refine zw_16 zr_0_258 (by omega) ?_
            refine zw_100k zr_0_259 rfl (by omega) (by omega) ex23.symm ?_
            refine zw_7s zr_0_260 rfl ?_
            refine zw_3 zr_0_261 rfl ?_
            refine zw_push zr_0_262 ?_
            refine zw_16 zr_0_263 (by omega) ?_
            refine zw_100k zr_0_264 rfl (by omega) (by omega) ex24.symm ?_
            refine zw_7s zr_0_265 rfl ?_
            refine zw_3 zr_0_266 rfl ?_
            refine zw_push zr_0_267 ?_
            refine zw_16 zr_0_268 (by omega) ?_
            refine zw_100k zr_0_269 rfl (by omega) (by omega) ex25.symm ?_
            refine zw_40_1 zr_0_270 ?_ ?_
            · intro h31
              refine zw_push zr_0_277 ?_
              obtain ⟨f32, ef32⟩ : ∃ v, m29 70 822 = v := ⟨_, rfl⟩
              have bf32 : 0 ≤ m29 70 822 ∧ m29 70 822 ≤ 10 := ib_70_players hIm29 (by omega)
              rw [ef32] at bf32
              obtain ⟨f33, ef33⟩ : ∃ v, m29 70 823 = v := ⟨_, rfl⟩
              have bf33 : 0 ≤ m29 70 823 ∧ m29 70 823 ≤ 60 := ib_70_meetings hIm29 (by omega)
              rw [ef33] at bf33
              refine zw_C zr_0_278 (Or.inl rfl) zm_146 rfl rfl ⟨Nat.le_of_ble_eq_true rfl, Nat.le_of_ble_eq_true rfl, Nat.le_of_ble_eq_true rfl, rfl, by decide⟩ (by omega) (th_146 (d := d - 1) (by omega) hIm29 (a0 := x21) (a1 := x22) (a2 := x23) (a3 := x24) (a4 := 0) (g0 := f32) (g1 := f33)  (F70 := m29 70) ef32 ef33 rfl (by omega) (by omega) (by omega) (by omega) (by omega) ) ?_
              rintro _ m34 ⟨r35, rfl, hr35a, hr35b, hIm34, gm34, po0_r35, po1_r35⟩
              have hFm34 : zFr W_0 m0 m34 := hFm29.trans gm34 rfl
              have km34_1_0 : m34 1 0 = f27 := (gm34 1 0 rfl).trans km29_1_0
              show zW E (d) 0 281 [(6, 0), (2, 0), (2, 69), (0, i2)] [(0, r35), (0, r30)] m34 Q
              obtain ⟨hkz36, hrz36⟩ := zk_meeting hIm3 hv0lp18_4 gm29 ef27 ef28 po0_r30 po1_r30 po2_r30 po3_r30 po4_r30 po5_r30 gm34 ef32 ef33 po0_r35 po1_r35
              refine zw_41_1 zr_0_281 ?_ ?_
              · intro h37
                refine zw_15 (c := 6) (L' := [(6, 0), (2, 0), (2, 69), (0, (i2 + 6))]) zr_0_1238 rfl (by decide) (by omega) rfl ?_
                refine zw_42 zr_0_1241 ?_
                exact zw_less (L := [(6, 0), (2, 0), (2, 69), (0, (i2 + 6))]) ⟨Or.inr rfl, Or.inr rfl, Or.inr rfl, Or.inr rfl, trivial⟩ (ihlp18_4 ((i2 + 6)) m34 hIm34 hFm34   (by omega) (by omega) (by assumption) (by omega))
              · intro h39
                refine zw_push zr_0_284 ?_
                refine zw_R zr_0_285 (by decide) zm_0 (v := (0, 0)) (zRetB (by omega)) ?_
                rw [← hQ]; exact ⟨_, rfl, by omega, by omega, hIm34, hFm34⟩
            · intro h40; omega
          · intro h41
            refine zw_push zr_0_236 ?_
            refine zw_42 zr_0_237 ?_
            obtain ⟨f42, ef42⟩ : ∃ v, m3 1 0 = v := ⟨_, rfl⟩
            have bf42 := ib_1_0 hIm3
            rw [ef42] at bf42
            obtain ⟨f43, ef43⟩ : ∃ v, m3 1 1 = v := ⟨_, rfl⟩
            have bf43 := ib_1_1 hIm3
            rw [ef43] at bf43
            refine zw_C zr_0_241 (Or.inl rfl) zm_102 rfl rfl ⟨Nat.le_of_ble_eq_true rfl, Nat.le_of_ble_eq_true rfl, Nat.le_of_ble_eq_true rfl, rfl, by decide⟩ (by omega) (th_102 (d := d - 1) (by omega) hIm3 (a0 := x21) (a1 := x22) (a2 := x23) (a3 := x24) (a4 := 1) (g0 := f42) (g1 := f43)  (F5 := m3 5) (F6 := m3 6) (F7 := m3 7) (F8 := m3 8) ef42 ef43 rfl rfl rfl rfl (by omega) (by omega) (by omega) (by omega) (by omega) ) ?_
            rintro _ m44 ⟨r45, rfl, hr45a, hr45b, hIm44, gm44, po0_r45, po1_r45, po2_r45, po3_r45, po4_r45, po5_r45⟩
            have hFm44 : zFr W_0 m0 m44 := hFm3.trans gm44 rfl
            have km44_1_0 : m44 1 0 = f42 := (gm44 1 0 rfl).trans ef42
            show zW E (d) 0 244 [(6, 0), (2, 0), (2, 69), (0, i2)] [(0, r45)] m44 Q
            refine zw_7 zr_0_244 rfl ?_
            refine zw_7s zr_0_245 rfl ?_
            refine zw_3 zr_0_246 rfl ?_
            refine zw_push zr_0_247 ?_
            refine zw_16 zr_0_248 (by omega) ?_
            refine zw_100k zr_0_249 rfl (by omega) (by omega) ex21.symm ?_
            refine zw_7s zr_0_250 rfl ?_
            refine zw_3 zr_0_251 rfl ?_
            refine zw_push zr_0_252 ?_
            refine zw_16 zr_0_253 (by omega) ?_
            refine zw_100k zr_0_254 rfl (by omega) (by omega) ex22.symm ?_
            refine zw_7s zr_0_255 rfl ?_
            refine zw_3 zr_0_256 rfl ?_
            refine zw_push zr_0_257 ?_
            refine zw_16 zr_0_258 (by omega) ?_
            refine zw_100k zr_0_259 rfl (by omega) (by omega) ex23.symm ?_
            refine zw_7s zr_0_260 rfl ?_
            refine zw_3 zr_0_261 rfl ?_
            refine zw_push zr_0_262 ?_
            refine zw_16 zr_0_263 (by omega) ?_
            refine zw_100k zr_0_264 rfl (by omega) (by omega) ex24.symm ?_
            refine zw_7s zr_0_265 rfl ?_
            refine zw_3 zr_0_266 rfl ?_
            refine zw_push zr_0_267 ?_
            refine zw_16 zr_0_268 (by omega) ?_
            refine zw_100k zr_0_269 rfl (by omega) (by omega) ex25.symm ?_
            refine zw_40_1 zr_0_270 ?_ ?_
            · intro h46
              refine zw_push zr_0_277 ?_
              obtain ⟨f47, ef47⟩ : ∃ v, m44 70 822 = v := ⟨_, rfl⟩
              have bf47 : 0 ≤ m44 70 822 ∧ m44 70 822 ≤ 10 := ib_70_players hIm44 (by omega)
              rw [ef47] at bf47
              obtain ⟨f48, ef48⟩ : ∃ v, m44 70 823 = v := ⟨_, rfl⟩
              have bf48 : 0 ≤ m44 70 823 ∧ m44 70 823 ≤ 60 := ib_70_meetings hIm44 (by omega)
              rw [ef48] at bf48
              refine zw_C zr_0_278 (Or.inl rfl) zm_146 rfl rfl ⟨Nat.le_of_ble_eq_true rfl, Nat.le_of_ble_eq_true rfl, Nat.le_of_ble_eq_true rfl, rfl, by decide⟩ (by omega) (th_146 (d := d - 1) (by omega) hIm44 (a0 := x21) (a1 := x22) (a2 := x23) (a3 := x24) (a4 := 0) (g0 := f47) (g1 := f48)  (F70 := m44 70) ef47 ef48 rfl (by omega) (by omega) (by omega) (by omega) (by omega) ) ?_
              rintro _ m49 ⟨r50, rfl, hr50a, hr50b, hIm49, gm49, po0_r50, po1_r50⟩
              have hFm49 : zFr W_0 m0 m49 := hFm44.trans gm49 rfl
              have km49_1_0 : m49 1 0 = f42 := (gm49 1 0 rfl).trans km44_1_0
              show zW E (d) 0 281 [(6, 0), (2, 0), (2, 69), (0, i2)] [(0, r50), (0, r45)] m49 Q
              obtain ⟨hkz51, hrz51⟩ := zk_meeting hIm3 hv0lp18_4 gm44 ef42 ef43 po0_r45 po1_r45 po2_r45 po3_r45 po4_r45 po5_r45 gm49 ef47 ef48 po0_r50 po1_r50
              refine zw_41_1 zr_0_281 ?_ ?_
              · intro h52
                refine zw_15 (c := 6) (L' := [(6, 0), (2, 0), (2, 69), (0, (i2 + 6))]) zr_0_1238 rfl (by decide) (by omega) rfl ?_
                refine zw_42 zr_0_1241 ?_
                exact zw_less (L := [(6, 0), (2, 0), (2, 69), (0, (i2 + 6))]) ⟨Or.inr rfl, Or.inr rfl, Or.inr rfl, Or.inr rfl, trivial⟩ (ihlp18_4 ((i2 + 6)) m49 hIm49 hFm49   (by omega) (by omega) (by assumption) (by omega))
              · intro h54
                refine zw_push zr_0_284 ?_
                refine zw_R zr_0_285 (by decide) zm_0 (v := (0, 0)) (zRetB (by omega)) ?_
                rw [← hQ]; exact ⟨_, rfl, by omega, by omega, hIm49, hFm49⟩
            · intro h55
              refine zw_push zr_0_273 ?_
              refine zw_42 zr_0_274 ?_
              obtain ⟨f56, ef56⟩ : ∃ v, m44 70 822 = v := ⟨_, rfl⟩
              have bf56 : 0 ≤ m44 70 822 ∧ m44 70 822 ≤ 10 := ib_70_players hIm44 (by omega)
              rw [ef56] at bf56
              obtain ⟨f57, ef57⟩ : ∃ v, m44 70 823 = v := ⟨_, rfl⟩
              have bf57 : 0 ≤ m44 70 823 ∧ m44 70 823 ≤ 60 := ib_70_meetings hIm44 (by omega)
              rw [ef57] at bf57
              refine zw_C zr_0_278 (Or.inl rfl) zm_146 rfl rfl ⟨Nat.le_of_ble_eq_true rfl, Nat.le_of_ble_eq_true rfl, Nat.le_of_ble_eq_true rfl, rfl, by decide⟩ (by omega) (th_146 (d := d - 1) (by omega) hIm44 (a0 := x21) (a1 := x22) (a2 := x23) (a3 := x24) (a4 := 1) (g0 := f56) (g1 := f57)  (F70 := m44 70) ef56 ef57 rfl (by omega) (by omega) (by omega) (by omega) (by omega) ) ?_
              rintro _ m58 ⟨r59, rfl, hr59a, hr59b, hIm58, gm58, po0_r59, po1_r59⟩
              have hFm58 : zFr W_0 m0 m58 := hFm44.trans gm58 rfl
              have km58_1_0 : m58 1 0 = f42 := (gm58 1 0 rfl).trans km44_1_0
              show zW E (d) 0 281 [(6, 0), (2, 0), (2, 69), (0, i2)] [(0, r59), (0, r45)] m58 Q
              obtain ⟨hkz60, hrz60⟩ := zk_meeting hIm3 hv0lp18_4 gm44 ef42 ef43 po0_r45 po1_r45 po2_r45 po3_r45 po4_r45 po5_r45 gm58 ef56 ef57 po0_r59 po1_r59
              refine zw_41_1 zr_0_281 ?_ ?_
              · intro h61
                refine zw_15 (c := 6) (L' := [(6, 0), (2, 0), (2, 69), (0, (i2 + 6))]) zr_0_1238 rfl (by decide) (by omega) rfl ?_
                refine zw_42 zr_0_1241 ?_
                exact zw_less (L := [(6, 0), (2, 0), (2, 69), (0, (i2 + 6))]) ⟨Or.inr rfl, Or.inr rfl, Or.inr rfl, Or.inr rfl, trivial⟩ (ihlp18_4 ((i2 + 6)) m58 hIm58 hFm58   (by omega) (by omega) (by assumption) (by omega))
              · intro h63
                refine zw_push zr_0_284 ?_
                refine zw_R zr_0_285 (by decide) zm_0 (v := (0, 0)) (zRetB (by omega)) ?_
                rw [← hQ]; exact ⟨_, rfl, by omega, by omega, hIm58, hFm58⟩
        by_cases h64 : x9 = 2
        · refine zw_111 (t := 286) zr_0_33 (by rw [h64]; rfl) ?_
          refine zw_7 zr_0_286 rfl ?_
          refine zw_7s zr_0_287 rfl ?_
          refine zw_3 zr_0_288 rfl ?_
          refine zw_push zr_0_289 ?_
          refine zw_16 zr_0_290 (by omega) ?_
          refine zw_100 zr_0_291 rfl (by omega) (by omega) ?_
          intro x65 ex65 hx65a hx65b
          refine zw_7s zr_0_292 rfl ?_
          refine zw_3 zr_0_293 rfl ?_
          refine zw_push zr_0_294 ?_
          refine zw_16 zr_0_295 (by omega) ?_
          refine zw_100 zr_0_296 rfl (by omega) (by omega) ?_
          intro x66 ex66 hx66a hx66b
          refine zw_7s zr_0_297 rfl ?_
          refine zw_3 zr_0_298 rfl ?_
          refine zw_push zr_0_299 ?_
          refine zw_16 zr_0_300 (by omega) ?_
          refine zw_100 zr_0_301 rfl (by omega) (by omega) ?_
          intro x67 ex67 hx67a hx67b
          refine zw_40_1 zr_0_302 ?_ ?_
          · intro h68
            refine zw_push zr_0_309 ?_
            refine zw_C zr_0_310 (Or.inl rfl) zm_103 rfl rfl ⟨Nat.le_of_ble_eq_true rfl, Nat.le_of_ble_eq_true rfl, Nat.le_of_ble_eq_true rfl, rfl, by decide⟩ (by omega) (th_103 (d := d - 1) (by omega) hIm3 (a0 := x65) (a1 := x66) (a2 := 0)      (by omega) (by omega) (by omega) ) ?_
            rintro _ m69 ⟨r70, rfl, hr70a, hr70b, hIm69, gm69⟩
            have hFm69 : zFr W_0 m0 m69 := hFm3.trans gm69 rfl
            show zW E (d) 0 313 [(6, 0), (2, 0), (2, 69), (0, i2)] [(0, r70)] m69 Q
            refine zw_115 zr_0_313 rfl ?_
            refine zw_7 zr_0_314 rfl ?_
            refine zw_7s zr_0_315 rfl ?_
            refine zw_3 zr_0_316 rfl ?_
            refine zw_push zr_0_317 ?_
            refine zw_16 zr_0_318 (by omega) ?_
            refine zw_100k zr_0_319 rfl (by omega) (by omega) ex65.symm ?_
            refine zw_7s zr_0_320 rfl ?_
            refine zw_3 zr_0_321 rfl ?_
            refine zw_push zr_0_322 ?_
            refine zw_16 zr_0_323 (by omega) ?_
            refine zw_100k zr_0_324 rfl (by omega) (by omega) ex66.symm ?_
            refine zw_7s zr_0_325 rfl ?_
            refine zw_3 zr_0_326 rfl ?_
            refine zw_push zr_0_327 ?_
            refine zw_16 zr_0_328 (by omega) ?_
            refine zw_100k zr_0_329 rfl (by omega) (by omega) ex67.symm ?_
            refine zw_40_1 zr_0_330 ?_ ?_
            · intro h71
              refine zw_push zr_0_337 ?_
              obtain ⟨f72, ef72⟩ : ∃ v, m69 70 823 = v := ⟨_, rfl⟩
              have bf72 : 0 ≤ m69 70 823 ∧ m69 70 823 ≤ 60 := ib_70_meetings hIm69 (by omega)
              rw [ef72] at bf72
              refine zw_C zr_0_338 (Or.inl rfl) zm_147 rfl rfl ⟨Nat.le_of_ble_eq_true rfl, Nat.le_of_ble_eq_true rfl, Nat.le_of_ble_eq_true rfl, rfl, by decide⟩ (by omega) (th_147 (d := d - 1) (by omega) hIm69 (a0 := x65) (a1 := x66) (a2 := 0) (g0 := f72)  (F70 := m69 70) ef72 rfl (by omega) (by omega) (by omega) ) ?_
              rintro _ m73 ⟨r74, rfl, hr74a, hr74b, hIm73, gm73, po0_r74, po1_r74⟩
              have hFm73 : zFr W_0 m0 m73 := hFm69.trans gm73 rfl
              show zW E (d) 0 341 [(6, 0), (2, 0), (2, 69), (0, i2)] [(0, r74)] m73 Q
              have hkz75 := zk_mark hIm3 hv0lp18_4 gm69 gm73 ef72 po0_r74 po1_r74
              refine zw_115 zr_0_341 rfl ?_
              refine zw_42 zr_0_342 ?_
              refine zw_15 (c := 6) (L' := [(6, 0), (2, 0), (2, 69), (0, (i2 + 6))]) zr_0_1238 rfl (by decide) (by omega) rfl ?_
              refine zw_42 zr_0_1241 ?_
              exact zw_less (L := [(6, 0), (2, 0), (2, 69), (0, (i2 + 6))]) ⟨Or.inr rfl, Or.inr rfl, Or.inr rfl, Or.inr rfl, trivial⟩ (ihlp18_4 ((i2 + 6)) m73 hIm73 hFm73   (by omega) (by omega) (by assumption) (by omega))
            · intro h77; omega
          · intro h78
            refine zw_push zr_0_305 ?_
            refine zw_42 zr_0_306 ?_
            refine zw_C zr_0_310 (Or.inl rfl) zm_103 rfl rfl ⟨Nat.le_of_ble_eq_true rfl, Nat.le_of_ble_eq_true rfl, Nat.le_of_ble_eq_true rfl, rfl, by decide⟩ (by omega) (th_103 (d := d - 1) (by omega) hIm3 (a0 := x65) (a1 := x66) (a2 := 1)      (by omega) (by omega) (by omega) ) ?_
            rintro _ m79 ⟨r80, rfl, hr80a, hr80b, hIm79, gm79⟩
            have hFm79 : zFr W_0 m0 m79 := hFm3.trans gm79 rfl
            show zW E (d) 0 313 [(6, 0), (2, 0), (2, 69), (0, i2)] [(0, r80)] m79 Q
            refine zw_115 zr_0_313 rfl ?_
            refine zw_7 zr_0_314 rfl ?_
            refine zw_7s zr_0_315 rfl ?_
            refine zw_3 zr_0_316 rfl ?_
            refine zw_push zr_0_317 ?_
            refine zw_16 zr_0_318 (by omega) ?_
            refine zw_100k zr_0_319 rfl (by omega) (by omega) ex65.symm ?_
            refine zw_7s zr_0_320 rfl ?_
            refine zw_3 zr_0_321 rfl ?_
            refine zw_push zr_0_322 ?_
            refine zw_16 zr_0_323 (by omega) ?_
            refine zw_100k zr_0_324 rfl (by omega) (by omega) ex66.symm ?_
            refine zw_7s zr_0_325 rfl ?_
            refine zw_3 zr_0_326 rfl ?_
            refine zw_push zr_0_327 ?_
            refine zw_16 zr_0_328 (by omega) ?_
            refine zw_100k zr_0_329 rfl (by omega) (by omega) ex67.symm ?_
            refine zw_40_1 zr_0_330 ?_ ?_
            · intro h81
              refine zw_push zr_0_337 ?_
              obtain ⟨f82, ef82⟩ : ∃ v, m79 70 823 = v := ⟨_, rfl⟩
              have bf82 : 0 ≤ m79 70 823 ∧ m79 70 823 ≤ 60 := ib_70_meetings hIm79 (by omega)
              rw [ef82] at bf82
              refine zw_C zr_0_338 (Or.inl rfl) zm_147 rfl rfl ⟨Nat.le_of_ble_eq_true rfl, Nat.le_of_ble_eq_true rfl, Nat.le_of_ble_eq_true rfl, rfl, by decide⟩ (by omega) (th_147 (d := d - 1) (by omega) hIm79 (a0 := x65) (a1 := x66) (a2 := 0) (g0 := f82)  (F70 := m79 70) ef82 rfl (by omega) (by omega) (by omega) ) ?_
              rintro _ m83 ⟨r84, rfl, hr84a, hr84b, hIm83, gm83, po0_r84, po1_r84⟩
              have hFm83 : zFr W_0 m0 m83 := hFm79.trans gm83 rfl
              show zW E (d) 0 341 [(6, 0), (2, 0), (2, 69), (0, i2)] [(0, r84)] m83 Q
              have hkz85 := zk_mark hIm3 hv0lp18_4 gm79 gm83 ef82 po0_r84 po1_r84
              refine zw_115 zr_0_341 rfl ?_
              refine zw_42 zr_0_342 ?_
              refine zw_15 (c := 6) (L' := [(6, 0), (2, 0), (2, 69), (0, (i2 + 6))]) zr_0_1238 rfl (by decide) (by omega) rfl ?_
              refine zw_42 zr_0_1241 ?_
              exact zw_less (L := [(6, 0), (2, 0), (2, 69), (0, (i2 + 6))]) ⟨Or.inr rfl, Or.inr rfl, Or.inr rfl, Or.inr rfl, trivial⟩ (ihlp18_4 ((i2 + 6)) m83 hIm83 hFm83   (by omega) (by omega) (by assumption) (by omega))
            · intro h87
              refine zw_push zr_0_333 ?_
              refine zw_42 zr_0_334 ?_
              obtain ⟨f88, ef88⟩ : ∃ v, m79 70 823 = v := ⟨_, rfl⟩
              have bf88 : 0 ≤ m79 70 823 ∧ m79 70 823 ≤ 60 := ib_70_meetings hIm79 (by omega)
              rw [ef88] at bf88
              refine zw_C zr_0_338 (Or.inl rfl) zm_147 rfl rfl ⟨Nat.le_of_ble_eq_true rfl, Nat.le_of_ble_eq_true rfl, Nat.le_of_ble_eq_true rfl, rfl, by decide⟩ (by omega) (th_147 (d := d - 1) (by omega) hIm79 (a0 := x65) (a1 := x66) (a2 := 1) (g0 := f88)  (F70 := m79 70) ef88 rfl (by omega) (by omega) (by omega) ) ?_
              rintro _ m89 ⟨r90, rfl, hr90a, hr90b, hIm89, gm89, po0_r90, po1_r90⟩
              have hFm89 : zFr W_0 m0 m89 := hFm79.trans gm89 rfl
              show zW E (d) 0 341 [(6, 0), (2, 0), (2, 69), (0, i2)] [(0, r90)] m89 Q
              have hkz91 := zk_mark hIm3 hv0lp18_4 gm79 gm89 ef88 po0_r90 po1_r90
              refine zw_115 zr_0_341 rfl ?_
              refine zw_42 zr_0_342 ?_
              refine zw_15 (c := 6) (L' := [(6, 0), (2, 0), (2, 69), (0, (i2 + 6))]) zr_0_1238 rfl (by decide) (by omega) rfl ?_
              refine zw_42 zr_0_1241 ?_
              exact zw_less (L := [(6, 0), (2, 0), (2, 69), (0, (i2 + 6))]) ⟨Or.inr rfl, Or.inr rfl, Or.inr rfl, Or.inr rfl, trivial⟩ (ihlp18_4 ((i2 + 6)) m89 hIm89 hFm89   (by omega) (by omega) (by assumption) (by omega))
        by_cases h93 : x9 = 3
        · refine zw_111 (t := 345) zr_0_33 (by rw [h93]; rfl) ?_
          refine zw_7 zr_0_345 rfl ?_
          refine zw_7s zr_0_346 rfl ?_
          refine zw_3 zr_0_347 rfl ?_
          refine zw_push zr_0_348 ?_
          refine zw_16 zr_0_349 (by omega) ?_
          refine zw_100 zr_0_350 rfl (by omega) (by omega) ?_
          intro x94 ex94 hx94a hx94b
          refine zw_7s zr_0_351 rfl ?_
          refine zw_3 zr_0_352 rfl ?_
          refine zw_push zr_0_353 ?_
          refine zw_16 zr_0_354 (by omega) ?_
          refine zw_100 zr_0_355 rfl (by omega) (by omega) ?_
          intro x95 ex95 hx95a hx95b
          refine zw_C zr_0_356 (Or.inl rfl) zm_105 rfl rfl ⟨Nat.le_of_ble_eq_true rfl, Nat.le_of_ble_eq_true rfl, Nat.le_of_ble_eq_true rfl, rfl, by decide⟩ (by omega) (th_105 (d := d - 1) (by omega) hIm3 (a0 := x94) (a1 := x95)   (F9 := m3 9)  rfl (by omega) (by omega) ) ?_
          rintro _ m96 ⟨r97, rfl, hr97a, hr97b, hIm96, gm96, po0_r97, po1_r97⟩
          have hFm96 : zFr W_0 m0 m96 := hFm3.trans gm96 rfl
          show zW E (d) 0 359 [(6, 0), (2, 0), (2, 69), (0, i2)] [(0, r97)] m96 Q
          refine zw_115 zr_0_359 rfl ?_
          refine zw_7 zr_0_360 rfl ?_
          refine zw_7s zr_0_361 rfl ?_
          refine zw_3 zr_0_362 rfl ?_
          refine zw_push zr_0_363 ?_
          refine zw_16 zr_0_364 (by omega) ?_
          refine zw_100k zr_0_365 rfl (by omega) (by omega) ex94.symm ?_
          refine zw_7s zr_0_366 rfl ?_
          refine zw_3 zr_0_367 rfl ?_
          refine zw_push zr_0_368 ?_
          refine zw_16 zr_0_369 (by omega) ?_
          refine zw_100k zr_0_370 rfl (by omega) (by omega) ex95.symm ?_
          refine zw_C zr_0_371 (Or.inl rfl) zm_149 rfl rfl ⟨Nat.le_of_ble_eq_true rfl, Nat.le_of_ble_eq_true rfl, Nat.le_of_ble_eq_true rfl, rfl, by decide⟩ (by omega) (th_149 (d := d - 1) (by omega) hIm96 (a0 := x94) (a1 := x95)   (F70 := m96 70)  rfl (by omega) (by omega) ) ?_
          rintro _ m98 ⟨r99, rfl, hr99a, hr99b, hIm98, gm98, po0_r99, po1_r99⟩
          have hFm98 : zFr W_0 m0 m98 := hFm96.trans gm98 rfl
          show zW E (d) 0 374 [(6, 0), (2, 0), (2, 69), (0, i2)] [(0, r99)] m98 Q
          obtain ⟨hkz100, hrz100⟩ := zk_first hIm3 hv0lp18_4 gm96 po0_r97 po1_r97 gm98 po0_r99 po1_r99
          refine zw_115 zr_0_374 rfl ?_
          refine zw_42 zr_0_375 ?_
          refine zw_15 (c := 6) (L' := [(6, 0), (2, 0), (2, 69), (0, (i2 + 6))]) zr_0_1238 rfl (by decide) (by omega) rfl ?_
          refine zw_42 zr_0_1241 ?_
          exact zw_less (L := [(6, 0), (2, 0), (2, 69), (0, (i2 + 6))]) ⟨Or.inr rfl, Or.inr rfl, Or.inr rfl, Or.inr rfl, trivial⟩ (ihlp18_4 ((i2 + 6)) m98 hIm98 hFm98   (by omega) (by omega) (by assumption) (by omega))
        by_cases h102 : x9 = 4
        · refine zw_111 (t := 378) zr_0_33 (by rw [h102]; rfl) ?_
          refine zw_7 zr_0_378 rfl ?_
          refine zw_7s zr_0_379 rfl ?_
          refine zw_3 zr_0_380 rfl ?_
          refine zw_push zr_0_381 ?_
          refine zw_16 zr_0_382 (by omega) ?_
          refine zw_100 zr_0_383 rfl (by omega) (by omega) ?_
          intro x103 ex103 hx103a hx103b
          refine zw_7s zr_0_384 rfl ?_
          refine zw_3 zr_0_385 rfl ?_
          refine zw_push zr_0_386 ?_
          refine zw_16 zr_0_387 (by omega) ?_
          refine zw_100 zr_0_388 rfl (by omega) (by omega) ?_
          intro x104 ex104 hx104a hx104b
          refine zw_C zr_0_389 (Or.inl rfl) zm_106 rfl rfl ⟨Nat.le_of_ble_eq_true rfl, Nat.le_of_ble_eq_true rfl, Nat.le_of_ble_eq_true rfl, rfl, by decide⟩ (by omega) (th_106 (d := d - 1) (by omega) hIm3 (a0 := x103) (a1 := x104)   (F10 := m3 10) (F11 := m3 11)  rfl rfl (by omega) (by omega) ) ?_
          rintro _ m105 ⟨r106, rfl, hr106a, hr106b, hIm105, gm105, po0_r106, po1_r106, po2_r106⟩
          have hFm105 : zFr W_0 m0 m105 := hFm3.trans gm105 rfl
          show zW E (d) 0 392 [(6, 0), (2, 0), (2, 69), (0, i2)] [(0, r106)] m105 Q
          refine zw_115 zr_0_392 rfl ?_
          refine zw_7 zr_0_393 rfl ?_
          refine zw_7s zr_0_394 rfl ?_
          refine zw_3 zr_0_395 rfl ?_
          refine zw_push zr_0_396 ?_
          refine zw_16 zr_0_397 (by omega) ?_
          refine zw_100k zr_0_398 rfl (by omega) (by omega) ex103.symm ?_
          refine zw_7s zr_0_399 rfl ?_
          refine zw_3 zr_0_400 rfl ?_
          refine zw_push zr_0_401 ?_
          refine zw_16 zr_0_402 (by omega) ?_
          refine zw_100k zr_0_403 rfl (by omega) (by omega) ex104.symm ?_
          refine zw_C zr_0_404 (Or.inl rfl) zm_150 rfl rfl ⟨Nat.le_of_ble_eq_true rfl, Nat.le_of_ble_eq_true rfl, Nat.le_of_ble_eq_true rfl, rfl, by decide⟩ (by omega) (th_150 (d := d - 1) (by omega) hIm105 (a0 := x103) (a1 := x104)   (F70 := m105 70)  rfl (by omega) (by omega) ) ?_
          rintro _ m107 ⟨r108, rfl, hr108a, hr108b, hIm107, gm107, po0_r108, po1_r108⟩
          have hFm107 : zFr W_0 m0 m107 := hFm105.trans gm107 rfl
          show zW E (d) 0 407 [(6, 0), (2, 0), (2, 69), (0, i2)] [(0, r108)] m107 Q
          obtain ⟨hkz109, hrz109⟩ := zk_write hIm3 hv0lp18_4 gm105 po0_r106 po1_r106 po2_r106 gm107 po0_r108 po1_r108
          refine zw_115 zr_0_407 rfl ?_
          refine zw_42 zr_0_408 ?_
          refine zw_15 (c := 6) (L' := [(6, 0), (2, 0), (2, 69), (0, (i2 + 6))]) zr_0_1238 rfl (by decide) (by omega) rfl ?_
          refine zw_42 zr_0_1241 ?_
          exact zw_less (L := [(6, 0), (2, 0), (2, 69), (0, (i2 + 6))]) ⟨Or.inr rfl, Or.inr rfl, Or.inr rfl, Or.inr rfl, trivial⟩ (ihlp18_4 ((i2 + 6)) m107 hIm107 hFm107   (by omega) (by omega) (by assumption) (by omega))
        by_cases h111 : x9 = 5
        · refine zw_111 (t := 411) zr_0_33 (by rw [h111]; rfl) ?_
          refine zw_7 zr_0_411 rfl ?_
          refine zw_7s zr_0_412 rfl ?_
          refine zw_3 zr_0_413 rfl ?_
          refine zw_push zr_0_414 ?_
          refine zw_16 zr_0_415 (by omega) ?_
          refine zw_100 zr_0_416 rfl (by omega) (by omega) ?_
          intro x112 ex112 hx112a hx112b
          refine zw_C zr_0_417 (Or.inl rfl) zm_107 rfl rfl ⟨Nat.le_of_ble_eq_true rfl, Nat.le_of_ble_eq_true rfl, Nat.le_of_ble_eq_true rfl, rfl, by decide⟩ (by omega) (th_107 (d := d - 1) (by omega) hIm3 (a0 := x112)   (F10 := m3 10)  rfl (by omega) ) ?_
          rintro _ m113 ⟨r114, rfl, hr114a, hr114b, hIm113, gm113, po0_r114, po1_r114⟩
          have hFm113 : zFr W_0 m0 m113 := hFm3.trans gm113 rfl
          show zW E (d) 0 420 [(6, 0), (2, 0), (2, 69), (0, i2)] [(0, r114)] m113 Q
          refine zw_115 zr_0_420 rfl ?_
          refine zw_7 zr_0_421 rfl ?_
          refine zw_7s zr_0_422 rfl ?_
          refine zw_3 zr_0_423 rfl ?_
          refine zw_push zr_0_424 ?_
          refine zw_16 zr_0_425 (by omega) ?_
          refine zw_100k zr_0_426 rfl (by omega) (by omega) ex112.symm ?_
          refine zw_C zr_0_427 (Or.inl rfl) zm_151 rfl rfl ⟨Nat.le_of_ble_eq_true rfl, Nat.le_of_ble_eq_true rfl, Nat.le_of_ble_eq_true rfl, rfl, by decide⟩ (by omega) (th_151 (d := d - 1) (by omega) hIm113 (a0 := x112)   (F70 := m113 70)  rfl (by omega) ) ?_
          rintro _ m115 ⟨r116, rfl, hr116a, hr116b, hIm115, gm115, po0_r116, po1_r116⟩
          have hFm115 : zFr W_0 m0 m115 := hFm113.trans gm115 rfl
          show zW E (d) 0 430 [(6, 0), (2, 0), (2, 69), (0, i2)] [(0, r116)] m115 Q
          obtain ⟨hkz117, hrz117⟩ := zk_erase hIm3 hv0lp18_4 gm113 po0_r114 po1_r114 gm115 po0_r116 po1_r116
          refine zw_115 zr_0_430 rfl ?_
          refine zw_42 zr_0_431 ?_
          refine zw_15 (c := 6) (L' := [(6, 0), (2, 0), (2, 69), (0, (i2 + 6))]) zr_0_1238 rfl (by decide) (by omega) rfl ?_
          refine zw_42 zr_0_1241 ?_
          exact zw_less (L := [(6, 0), (2, 0), (2, 69), (0, (i2 + 6))]) ⟨Or.inr rfl, Or.inr rfl, Or.inr rfl, Or.inr rfl, trivial⟩ (ihlp18_4 ((i2 + 6)) m115 hIm115 hFm115   (by omega) (by omega) (by assumption) (by omega))
        by_cases h119 : x9 = 6
        · refine zw_111 (t := 434) zr_0_33 (by rw [h119]; rfl) ?_
          refine zw_7 zr_0_434 rfl ?_
          refine zw_7s zr_0_435 rfl ?_
          refine zw_3 zr_0_436 rfl ?_
          refine zw_push zr_0_437 ?_
          refine zw_16 zr_0_438 (by omega) ?_
          refine zw_100 zr_0_439 rfl (by omega) (by omega) ?_
          intro x120 ex120 hx120a hx120b
          refine zw_C zr_0_440 (Or.inl rfl) zm_108 rfl rfl ⟨Nat.le_of_ble_eq_true rfl, Nat.le_of_ble_eq_true rfl, Nat.le_of_ble_eq_true rfl, rfl, by decide⟩ (by omega) (th_108 (d := d - 1) (by omega) hIm3 (a0 := x120)      (by omega) ) ?_
          rintro _ m121 ⟨r122, rfl, hr122a, hr122b, hIm121, gm121⟩
          have hFm121 : zFr W_0 m0 m121 := hFm3.trans gm121 rfl
          show zW E (d) 0 443 [(6, 0), (2, 0), (2, 69), (0, i2)] [(0, r122)] m121 Q
          refine zw_115 zr_0_443 rfl ?_
          refine zw_7 zr_0_444 rfl ?_
          refine zw_7s zr_0_445 rfl ?_
          refine zw_3 zr_0_446 rfl ?_
          refine zw_push zr_0_447 ?_
          refine zw_16 zr_0_448 (by omega) ?_
          refine zw_100k zr_0_449 rfl (by omega) (by omega) ex120.symm ?_
          refine zw_C zr_0_450 (Or.inl rfl) zm_163 rfl rfl ⟨Nat.le_of_ble_eq_true rfl, Nat.le_of_ble_eq_true rfl, Nat.le_of_ble_eq_true rfl, rfl, by decide⟩ (by omega) (th_163 (d := d - 1) (by omega) hIm121 (a0 := x120)      (by omega) ) ?_
          rintro _ m123 ⟨r124, rfl, hr124a, hr124b, hIm123, gm123⟩
          have hFm123 : zFr W_0 m0 m123 := hFm121.trans gm123 rfl
          show zW E (d) 0 453 [(6, 0), (2, 0), (2, 69), (0, i2)] [(0, r124)] m123 Q
          have hkz125_0 := zk_fr hv0lp18_4 gm121
          have hkz125_1 := zk_fr hkz125_0 gm123
          refine zw_115 zr_0_453 rfl ?_
          refine zw_42 zr_0_454 ?_
          refine zw_15 (c := 6) (L' := [(6, 0), (2, 0), (2, 69), (0, (i2 + 6))]) zr_0_1238 rfl (by decide) (by omega) rfl ?_
          refine zw_42 zr_0_1241 ?_
          exact zw_less (L := [(6, 0), (2, 0), (2, 69), (0, (i2 + 6))]) ⟨Or.inr rfl, Or.inr rfl, Or.inr rfl, Or.inr rfl, trivial⟩ (ihlp18_4 ((i2 + 6)) m123 hIm123 hFm123   (by omega) (by omega) (by assumption) (by omega))
        by_cases h127 : x9 = 7
        · refine zw_111 (t := 457) zr_0_33 (by rw [h127]; rfl) ?_
          refine zw_7 zr_0_457 rfl ?_
          refine zw_7s zr_0_458 rfl ?_
          refine zw_3 zr_0_459 rfl ?_
          refine zw_push zr_0_460 ?_
          refine zw_16 zr_0_461 (by omega) ?_
          refine zw_100 zr_0_462 rfl (by omega) (by omega) ?_
          intro x128 ex128 hx128a hx128b
          refine zw_7s zr_0_463 rfl ?_
          refine zw_3 zr_0_464 rfl ?_
          refine zw_push zr_0_465 ?_
          refine zw_16 zr_0_466 (by omega) ?_
          refine zw_100 zr_0_467 rfl (by omega) (by omega) ?_
          intro x129 ex129 hx129a hx129b
          refine zw_7s zr_0_468 rfl ?_
          refine zw_3 zr_0_469 rfl ?_
          refine zw_push zr_0_470 ?_
          refine zw_16 zr_0_471 (by omega) ?_
          refine zw_100 zr_0_472 rfl (by omega) (by omega) ?_
          intro x130 ex130 hx130a hx130b
          refine zw_C zr_0_473 (Or.inl rfl) zm_109 rfl rfl ⟨Nat.le_of_ble_eq_true rfl, Nat.le_of_ble_eq_true rfl, Nat.le_of_ble_eq_true rfl, rfl, by decide⟩ (by omega) (th_109 (d := d - 1) (by omega) hIm3 (a0 := x128) (a1 := x129) (a2 := x130)      (by omega) (by omega) (by omega) ) ?_
          rintro _ m131 ⟨r132, rfl, hr132a, hr132b, hIm131, gm131⟩
          have hFm131 : zFr W_0 m0 m131 := hFm3.trans gm131 rfl
          show zW E (d) 0 476 [(6, 0), (2, 0), (2, 69), (0, i2)] [(0, r132)] m131 Q
          refine zw_115 zr_0_476 rfl ?_
          refine zw_7 zr_0_477 rfl ?_
          refine zw_7s zr_0_478 rfl ?_
          refine zw_3 zr_0_479 rfl ?_
          refine zw_push zr_0_480 ?_
          refine zw_16 zr_0_481 (by omega) ?_
          refine zw_100k zr_0_482 rfl (by omega) (by omega) ex128.symm ?_
          refine zw_7s zr_0_483 rfl ?_
          refine zw_3 zr_0_484 rfl ?_
          refine zw_push zr_0_485 ?_
          refine zw_16 zr_0_486 (by omega) ?_
          refine zw_100k zr_0_487 rfl (by omega) (by omega) ex129.symm ?_
          refine zw_7s zr_0_488 rfl ?_
          refine zw_3 zr_0_489 rfl ?_
          refine zw_push zr_0_490 ?_
          refine zw_16 zr_0_491 (by omega) ?_
          refine zw_100k zr_0_492 rfl (by omega) (by omega) ex130.symm ?_
          refine zw_C zr_0_493 (Or.inl rfl) zm_168 rfl rfl ⟨Nat.le_of_ble_eq_true rfl, Nat.le_of_ble_eq_true rfl, Nat.le_of_ble_eq_true rfl, rfl, by decide⟩ (by omega) (th_168 (d := d - 1) (by omega) hIm131 (a0 := x128) (a1 := x129) (a2 := x130)      (by omega) (by omega) (by omega) ) ?_
          rintro _ m133 ⟨r134, rfl, hr134a, hr134b, hIm133, gm133⟩
          have hFm133 : zFr W_0 m0 m133 := hFm131.trans gm133 rfl
          show zW E (d) 0 496 [(6, 0), (2, 0), (2, 69), (0, i2)] [(0, r134)] m133 Q
          have hkz135_0 := zk_fr hv0lp18_4 gm131
          have hkz135_1 := zk_fr hkz135_0 gm133
          refine zw_115 zr_0_496 rfl ?_
          refine zw_42 zr_0_497 ?_
          refine zw_15 (c := 6) (L' := [(6, 0), (2, 0), (2, 69), (0, (i2 + 6))]) zr_0_1238 rfl (by decide) (by omega) rfl ?_
          refine zw_42 zr_0_1241 ?_
          exact zw_less (L := [(6, 0), (2, 0), (2, 69), (0, (i2 + 6))]) ⟨Or.inr rfl, Or.inr rfl, Or.inr rfl, Or.inr rfl, trivial⟩ (ihlp18_4 ((i2 + 6)) m133 hIm133 hFm133   (by omega) (by omega) (by assumption) (by omega))
        by_cases h137 : x9 = 8
        · refine zw_111 (t := 500) zr_0_33 (by rw [h137]; rfl) ?_
          refine zw_7 zr_0_500 rfl ?_
          refine zw_7s zr_0_501 rfl ?_
          refine zw_3 zr_0_502 rfl ?_
          refine zw_push zr_0_503 ?_
          refine zw_16 zr_0_504 (by omega) ?_
          refine zw_100 zr_0_505 rfl (by omega) (by omega) ?_
          intro x138 ex138 hx138a hx138b
          refine zw_7s zr_0_506 rfl ?_
          refine zw_3 zr_0_507 rfl ?_
          refine zw_push zr_0_508 ?_
          refine zw_16 zr_0_509 (by omega) ?_
          refine zw_100 zr_0_510 rfl (by omega) (by omega) ?_
          intro x139 ex139 hx139a hx139b
          refine zw_C zr_0_511 (Or.inl rfl) zm_110 rfl rfl ⟨Nat.le_of_ble_eq_true rfl, Nat.le_of_ble_eq_true rfl, Nat.le_of_ble_eq_true rfl, rfl, by decide⟩ (by omega) (th_110 (d := d - 1) (by omega) hIm3 (a0 := x138) (a1 := x139)      (by omega) (by omega) ) ?_
          rintro _ m140 ⟨r141, rfl, hr141a, hr141b, hIm140, gm140⟩
          have hFm140 : zFr W_0 m0 m140 := hFm3.trans gm140 rfl
          show zW E (d) 0 514 [(6, 0), (2, 0), (2, 69), (0, i2)] [(0, r141)] m140 Q
          refine zw_115 zr_0_514 rfl ?_
          refine zw_7 zr_0_515 rfl ?_
          refine zw_7s zr_0_516 rfl ?_
          refine zw_3 zr_0_517 rfl ?_
          refine zw_push zr_0_518 ?_
          refine zw_16 zr_0_519 (by omega) ?_
          refine zw_100k zr_0_520 rfl (by omega) (by omega) ex138.symm ?_
          refine zw_7s zr_0_521 rfl ?_
          refine zw_3 zr_0_522 rfl ?_
          refine zw_push zr_0_523 ?_
          refine zw_16 zr_0_524 (by omega) ?_
          refine zw_100k zr_0_525 rfl (by omega) (by omega) ex139.symm ?_
          refine zw_C zr_0_526 (Or.inl rfl) zm_170 rfl rfl ⟨Nat.le_of_ble_eq_true rfl, Nat.le_of_ble_eq_true rfl, Nat.le_of_ble_eq_true rfl, rfl, by decide⟩ (by omega) (th_170 (d := d - 1) (by omega) hIm140 (a0 := x138) (a1 := x139)      (by omega) (by omega) ) ?_
          rintro _ m142 ⟨r143, rfl, hr143a, hr143b, hIm142, gm142⟩
          have hFm142 : zFr W_0 m0 m142 := hFm140.trans gm142 rfl
          show zW E (d) 0 529 [(6, 0), (2, 0), (2, 69), (0, i2)] [(0, r143)] m142 Q
          have hkz144_0 := zk_fr hv0lp18_4 gm140
          have hkz144_1 := zk_fr hkz144_0 gm142
          refine zw_115 zr_0_529 rfl ?_
          refine zw_42 zr_0_530 ?_
          refine zw_15 (c := 6) (L' := [(6, 0), (2, 0), (2, 69), (0, (i2 + 6))]) zr_0_1238 rfl (by decide) (by omega) rfl ?_
          refine zw_42 zr_0_1241 ?_
          exact zw_less (L := [(6, 0), (2, 0), (2, 69), (0, (i2 + 6))]) ⟨Or.inr rfl, Or.inr rfl, Or.inr rfl, Or.inr rfl, trivial⟩ (ihlp18_4 ((i2 + 6)) m142 hIm142 hFm142   (by omega) (by omega) (by assumption) (by omega))
        by_cases h146 : x9 = 9
        · refine zw_111 (t := 533) zr_0_33 (by rw [h146]; rfl) ?_
          refine zw_7 zr_0_533 rfl ?_
          refine zw_7s zr_0_534 rfl ?_
          refine zw_3 zr_0_535 rfl ?_
          refine zw_push zr_0_536 ?_
          refine zw_16 zr_0_537 (by omega) ?_
          refine zw_100 zr_0_538 rfl (by omega) (by omega) ?_
          intro x147 ex147 hx147a hx147b
          refine zw_7s zr_0_539 rfl ?_
          refine zw_3 zr_0_540 rfl ?_
          refine zw_push zr_0_541 ?_
          refine zw_16 zr_0_542 (by omega) ?_
          refine zw_100 zr_0_543 rfl (by omega) (by omega) ?_
          intro x148 ex148 hx148a hx148b
          refine zw_7s zr_0_544 rfl ?_
          refine zw_3 zr_0_545 rfl ?_
          refine zw_push zr_0_546 ?_
          refine zw_16 zr_0_547 (by omega) ?_
          refine zw_100 zr_0_548 rfl (by omega) (by omega) ?_
          intro x149 ex149 hx149a hx149b
          refine zw_C zr_0_549 (Or.inl rfl) zm_111 rfl rfl ⟨Nat.le_of_ble_eq_true rfl, Nat.le_of_ble_eq_true rfl, Nat.le_of_ble_eq_true rfl, rfl, by decide⟩ (by omega) (th_111 (d := d - 1) (by omega) hIm3 (a0 := x147) (a1 := x148) (a2 := x149)      (by omega) (by omega) (by omega) ) ?_
          rintro _ m150 ⟨r151, rfl, hr151a, hr151b, hIm150, gm150⟩
          have hFm150 : zFr W_0 m0 m150 := hFm3.trans gm150 rfl
          show zW E (d) 0 552 [(6, 0), (2, 0), (2, 69), (0, i2)] [(0, r151)] m150 Q
          refine zw_115 zr_0_552 rfl ?_
          refine zw_7 zr_0_553 rfl ?_
          refine zw_7s zr_0_554 rfl ?_
          refine zw_3 zr_0_555 rfl ?_
          refine zw_push zr_0_556 ?_
          refine zw_16 zr_0_557 (by omega) ?_
          refine zw_100k zr_0_558 rfl (by omega) (by omega) ex147.symm ?_
          refine zw_7s zr_0_559 rfl ?_
          refine zw_3 zr_0_560 rfl ?_
          refine zw_push zr_0_561 ?_
          refine zw_16 zr_0_562 (by omega) ?_
          refine zw_100k zr_0_563 rfl (by omega) (by omega) ex148.symm ?_
          refine zw_7s zr_0_564 rfl ?_
          refine zw_3 zr_0_565 rfl ?_
          refine zw_push zr_0_566 ?_
          refine zw_16 zr_0_567 (by omega) ?_
          refine zw_100k zr_0_568 rfl (by omega) (by omega) ex149.symm ?_
          refine zw_C zr_0_569 (Or.inl rfl) zm_174 rfl rfl ⟨Nat.le_of_ble_eq_true rfl, Nat.le_of_ble_eq_true rfl, Nat.le_of_ble_eq_true rfl, rfl, by decide⟩ (by omega) (th_174 (d := d - 1) (by omega) hIm150 (a0 := x147) (a1 := x148) (a2 := x149)      (by omega) (by omega) (by omega) ) ?_
          rintro _ m152 ⟨r153, rfl, hr153a, hr153b, hIm152, gm152⟩
          have hFm152 : zFr W_0 m0 m152 := hFm150.trans gm152 rfl
          show zW E (d) 0 572 [(6, 0), (2, 0), (2, 69), (0, i2)] [(0, r153)] m152 Q
          have hkz154_0 := zk_fr hv0lp18_4 gm150
          have hkz154_1 := zk_fr hkz154_0 gm152
          refine zw_115 zr_0_572 rfl ?_
          refine zw_42 zr_0_573 ?_
          refine zw_15 (c := 6) (L' := [(6, 0), (2, 0), (2, 69), (0, (i2 + 6))]) zr_0_1238 rfl (by decide) (by omega) rfl ?_
          refine zw_42 zr_0_1241 ?_
          exact zw_less (L := [(6, 0), (2, 0), (2, 69), (0, (i2 + 6))]) ⟨Or.inr rfl, Or.inr rfl, Or.inr rfl, Or.inr rfl, trivial⟩ (ihlp18_4 ((i2 + 6)) m152 hIm152 hFm152   (by omega) (by omega) (by assumption) (by omega))
        by_cases h156 : x9 = 10
        · refine zw_111 (t := 576) zr_0_33 (by rw [h156]; rfl) ?_
          refine zw_7 zr_0_576 rfl ?_
          refine zw_7s zr_0_577 rfl ?_
          refine zw_3 zr_0_578 rfl ?_
          refine zw_push zr_0_579 ?_
          refine zw_16 zr_0_580 (by omega) ?_
          refine zw_100 zr_0_581 rfl (by omega) (by omega) ?_
          intro x157 ex157 hx157a hx157b
          refine zw_7s zr_0_582 rfl ?_
          refine zw_3 zr_0_583 rfl ?_
          refine zw_push zr_0_584 ?_
          refine zw_16 zr_0_585 (by omega) ?_
          refine zw_100 zr_0_586 rfl (by omega) (by omega) ?_
          intro x158 ex158 hx158a hx158b
          refine zw_7s zr_0_587 rfl ?_
          refine zw_3 zr_0_588 rfl ?_
          refine zw_push zr_0_589 ?_
          refine zw_16 zr_0_590 (by omega) ?_
          refine zw_100 zr_0_591 rfl (by omega) (by omega) ?_
          intro x159 ex159 hx159a hx159b
          refine zw_C zr_0_592 (Or.inl rfl) zm_112 rfl rfl ⟨Nat.le_of_ble_eq_true rfl, Nat.le_of_ble_eq_true rfl, Nat.le_of_ble_eq_true rfl, rfl, by decide⟩ (by omega) (th_112 (d := d - 1) (by omega) hIm3 (a0 := x157) (a1 := x158) (a2 := x159)      (by omega) (by omega) (by omega) ) ?_
          rintro _ m160 ⟨r161, rfl, hr161a, hr161b, hIm160, gm160⟩
          have hFm160 : zFr W_0 m0 m160 := hFm3.trans gm160 rfl
          show zW E (d) 0 595 [(6, 0), (2, 0), (2, 69), (0, i2)] [(0, r161)] m160 Q
          refine zw_115 zr_0_595 rfl ?_
          refine zw_7 zr_0_596 rfl ?_
          refine zw_7s zr_0_597 rfl ?_
          refine zw_3 zr_0_598 rfl ?_
          refine zw_push zr_0_599 ?_
          refine zw_16 zr_0_600 (by omega) ?_
          refine zw_100k zr_0_601 rfl (by omega) (by omega) ex157.symm ?_
          refine zw_7s zr_0_602 rfl ?_
          refine zw_3 zr_0_603 rfl ?_
          refine zw_push zr_0_604 ?_
          refine zw_16 zr_0_605 (by omega) ?_
          refine zw_100k zr_0_606 rfl (by omega) (by omega) ex158.symm ?_
          refine zw_7s zr_0_607 rfl ?_
          refine zw_3 zr_0_608 rfl ?_
          refine zw_push zr_0_609 ?_
          refine zw_16 zr_0_610 (by omega) ?_
          refine zw_100k zr_0_611 rfl (by omega) (by omega) ex159.symm ?_
          refine zw_C zr_0_612 (Or.inl rfl) zm_175 rfl rfl ⟨Nat.le_of_ble_eq_true rfl, Nat.le_of_ble_eq_true rfl, Nat.le_of_ble_eq_true rfl, rfl, by decide⟩ (by omega) (th_175 (d := d - 1) (by omega) hIm160 (a0 := x157) (a1 := x158) (a2 := x159)      (by omega) (by omega) (by omega) ) ?_
          rintro _ m162 ⟨r163, rfl, hr163a, hr163b, hIm162, gm162⟩
          have hFm162 : zFr W_0 m0 m162 := hFm160.trans gm162 rfl
          show zW E (d) 0 615 [(6, 0), (2, 0), (2, 69), (0, i2)] [(0, r163)] m162 Q
          have hkz164_0 := zk_fr hv0lp18_4 gm160
          have hkz164_1 := zk_fr hkz164_0 gm162
          refine zw_115 zr_0_615 rfl ?_
          refine zw_42 zr_0_616 ?_
          refine zw_15 (c := 6) (L' := [(6, 0), (2, 0), (2, 69), (0, (i2 + 6))]) zr_0_1238 rfl (by decide) (by omega) rfl ?_
          refine zw_42 zr_0_1241 ?_
          exact zw_less (L := [(6, 0), (2, 0), (2, 69), (0, (i2 + 6))]) ⟨Or.inr rfl, Or.inr rfl, Or.inr rfl, Or.inr rfl, trivial⟩ (ihlp18_4 ((i2 + 6)) m162 hIm162 hFm162   (by omega) (by omega) (by assumption) (by omega))
        by_cases h166 : x9 = 11
        · refine zw_111 (t := 619) zr_0_33 (by rw [h166]; rfl) ?_
          refine zw_7 zr_0_619 rfl ?_
          refine zw_7s zr_0_620 rfl ?_
          refine zw_3 zr_0_621 rfl ?_
          refine zw_push zr_0_622 ?_
          refine zw_16 zr_0_623 (by omega) ?_
          refine zw_100 zr_0_624 rfl (by omega) (by omega) ?_
          intro x167 ex167 hx167a hx167b
          refine zw_C zr_0_625 (Or.inl rfl) zm_113 rfl rfl ⟨Nat.le_of_ble_eq_true rfl, Nat.le_of_ble_eq_true rfl, Nat.le_of_ble_eq_true rfl, rfl, by decide⟩ (by omega) (th_113 (d := d - 1) (by omega) hIm3 (a0 := x167)      (by omega) ) ?_
          rintro _ m168 ⟨r169, rfl, hr169a, hr169b, hIm168, gm168⟩
          have hFm168 : zFr W_0 m0 m168 := hFm3.trans gm168 rfl
          show zW E (d) 0 628 [(6, 0), (2, 0), (2, 69), (0, i2)] [(0, r169)] m168 Q
          refine zw_115 zr_0_628 rfl ?_
          refine zw_7 zr_0_629 rfl ?_
          refine zw_7s zr_0_630 rfl ?_
          refine zw_3 zr_0_631 rfl ?_
          refine zw_push zr_0_632 ?_
          refine zw_16 zr_0_633 (by omega) ?_
          refine zw_100k zr_0_634 rfl (by omega) (by omega) ex167.symm ?_
          refine zw_C zr_0_635 (Or.inl rfl) zm_177 rfl rfl ⟨Nat.le_of_ble_eq_true rfl, Nat.le_of_ble_eq_true rfl, Nat.le_of_ble_eq_true rfl, rfl, by decide⟩ (by omega) (th_177 (d := d - 1) (by omega) hIm168 (a0 := x167)      (by omega) ) ?_
          rintro _ m170 ⟨r171, rfl, hr171a, hr171b, hIm170, gm170⟩
          have hFm170 : zFr W_0 m0 m170 := hFm168.trans gm170 rfl
          show zW E (d) 0 638 [(6, 0), (2, 0), (2, 69), (0, i2)] [(0, r171)] m170 Q
          have hkz172_0 := zk_fr hv0lp18_4 gm168
          have hkz172_1 := zk_fr hkz172_0 gm170
          refine zw_115 zr_0_638 rfl ?_
          refine zw_42 zr_0_639 ?_
          refine zw_15 (c := 6) (L' := [(6, 0), (2, 0), (2, 69), (0, (i2 + 6))]) zr_0_1238 rfl (by decide) (by omega) rfl ?_
          refine zw_42 zr_0_1241 ?_
          exact zw_less (L := [(6, 0), (2, 0), (2, 69), (0, (i2 + 6))]) ⟨Or.inr rfl, Or.inr rfl, Or.inr rfl, Or.inr rfl, trivial⟩ (ihlp18_4 ((i2 + 6)) m170 hIm170 hFm170   (by omega) (by omega) (by assumption) (by omega))
        by_cases h174 : x9 = 12
        · refine zw_111 (t := 642) zr_0_33 (by rw [h174]; rfl) ?_
          refine zw_7 zr_0_642 rfl ?_
          refine zw_C zr_0_643 (Or.inl rfl) zm_114 rfl rfl ⟨Nat.le_of_ble_eq_true rfl, Nat.le_of_ble_eq_true rfl, Nat.le_of_ble_eq_true rfl, rfl, by decide⟩ (by omega) (th_114 (d := d - 1) (by omega) hIm3        ) ?_
          rintro _ m175 ⟨r176, rfl, hr176a, hr176b, hIm175, gm175⟩
          have hFm175 : zFr W_0 m0 m175 := hFm3.trans gm175 rfl
          show zW E (d) 0 646 [(6, 0), (2, 0), (2, 69), (0, i2)] [(0, r176)] m175 Q
          refine zw_115 zr_0_646 rfl ?_
          refine zw_7 zr_0_647 rfl ?_
          refine zw_C zr_0_648 (Or.inl rfl) zm_178 rfl rfl ⟨Nat.le_of_ble_eq_true rfl, Nat.le_of_ble_eq_true rfl, Nat.le_of_ble_eq_true rfl, rfl, by decide⟩ (by omega) (th_178 (d := d - 1) (by omega) hIm175        ) ?_
          rintro _ m177 ⟨r178, rfl, hr178a, hr178b, hIm177, gm177⟩
          have hFm177 : zFr W_0 m0 m177 := hFm175.trans gm177 rfl
          show zW E (d) 0 651 [(6, 0), (2, 0), (2, 69), (0, i2)] [(0, r178)] m177 Q
          have hkz179_0 := zk_fr hv0lp18_4 gm175
          have hkz179_1 := zk_fr hkz179_0 gm177
          refine zw_115 zr_0_651 rfl ?_
          refine zw_42 zr_0_652 ?_
          refine zw_15 (c := 6) (L' := [(6, 0), (2, 0), (2, 69), (0, (i2 + 6))]) zr_0_1238 rfl (by decide) (by omega) rfl ?_
          refine zw_42 zr_0_1241 ?_
          exact zw_less (L := [(6, 0), (2, 0), (2, 69), (0, (i2 + 6))]) ⟨Or.inr rfl, Or.inr rfl, Or.inr rfl, Or.inr rfl, trivial⟩ (ihlp18_4 ((i2 + 6)) m177 hIm177 hFm177   (by omega) (by omega) (by assumption) (by omega))
        by_cases h181 : x9 = 13
        · refine zw_111 (t := 655) zr_0_33 (by rw [h181]; rfl) ?_
          refine zw_7 zr_0_655 rfl ?_
          refine zw_7s zr_0_656 rfl ?_
          refine zw_3 zr_0_657 rfl ?_
          refine zw_push zr_0_658 ?_
          refine zw_16 zr_0_659 (by omega) ?_
          refine zw_100 zr_0_660 rfl (by omega) (by omega) ?_
          intro x182 ex182 hx182a hx182b
          refine zw_7s zr_0_661 rfl ?_
          refine zw_3 zr_0_662 rfl ?_
          refine zw_push zr_0_663 ?_
          refine zw_16 zr_0_664 (by omega) ?_
          refine zw_100 zr_0_665 rfl (by omega) (by omega) ?_
          intro x183 ex183 hx183a hx183b
          refine zw_C zr_0_666 (Or.inl rfl) zm_115 rfl rfl ⟨Nat.le_of_ble_eq_true rfl, Nat.le_of_ble_eq_true rfl, Nat.le_of_ble_eq_true rfl, rfl, by decide⟩ (by omega) (th_115 (d := d - 1) (by omega) hIm3 (a0 := x182) (a1 := x183)   (F12 := m3 12)  rfl (by omega) (by omega) ) ?_
          rintro _ m184 ⟨r185, rfl, hr185a, hr185b, hIm184, gm184, po0_r185, po1_r185⟩
          have hFm184 : zFr W_0 m0 m184 := hFm3.trans gm184 rfl
          show zW E (d) 0 669 [(6, 0), (2, 0), (2, 69), (0, i2)] [(0, r185)] m184 Q
          refine zw_115 zr_0_669 rfl ?_
          refine zw_7 zr_0_670 rfl ?_
          refine zw_7s zr_0_671 rfl ?_
          refine zw_3 zr_0_672 rfl ?_
          refine zw_push zr_0_673 ?_
          refine zw_16 zr_0_674 (by omega) ?_
          refine zw_100k zr_0_675 rfl (by omega) (by omega) ex182.symm ?_
          refine zw_7s zr_0_676 rfl ?_
          refine zw_3 zr_0_677 rfl ?_
          refine zw_push zr_0_678 ?_
          refine zw_16 zr_0_679 (by omega) ?_
          refine zw_100k zr_0_680 rfl (by omega) (by omega) ex183.symm ?_
          refine zw_C zr_0_681 (Or.inl rfl) zm_179 rfl rfl ⟨Nat.le_of_ble_eq_true rfl, Nat.le_of_ble_eq_true rfl, Nat.le_of_ble_eq_true rfl, rfl, by decide⟩ (by omega) (th_179 (d := d - 1) (by omega) hIm184 (a0 := x182) (a1 := x183)   (F70 := m184 70)  rfl (by omega) (by omega) ) ?_
          rintro _ m186 ⟨r187, rfl, hr187a, hr187b, hIm186, gm186, po0_r187, po1_r187⟩
          have hFm186 : zFr W_0 m0 m186 := hFm184.trans gm186 rfl
          show zW E (d) 0 684 [(6, 0), (2, 0), (2, 69), (0, i2)] [(0, r187)] m186 Q
          obtain ⟨hkz188, hrz188⟩ := zk_shape hIm3 hv0lp18_4 gm184 po0_r185 po1_r185 gm186 po0_r187 po1_r187
          refine zw_115 zr_0_684 rfl ?_
          refine zw_42 zr_0_685 ?_
          refine zw_15 (c := 6) (L' := [(6, 0), (2, 0), (2, 69), (0, (i2 + 6))]) zr_0_1238 rfl (by decide) (by omega) rfl ?_
          refine zw_42 zr_0_1241 ?_
          exact zw_less (L := [(6, 0), (2, 0), (2, 69), (0, (i2 + 6))]) ⟨Or.inr rfl, Or.inr rfl, Or.inr rfl, Or.inr rfl, trivial⟩ (ihlp18_4 ((i2 + 6)) m186 hIm186 hFm186   (by omega) (by omega) (by assumption) (by omega))
        by_cases h190 : x9 = 14
        · refine zw_111 (t := 688) zr_0_33 (by rw [h190]; rfl) ?_
          refine zw_7 zr_0_688 rfl ?_
          refine zw_7s zr_0_689 rfl ?_
          refine zw_3 zr_0_690 rfl ?_
          refine zw_push zr_0_691 ?_
          refine zw_16 zr_0_692 (by omega) ?_
          refine zw_100 zr_0_693 rfl (by omega) (by omega) ?_
          intro x191 ex191 hx191a hx191b
          refine zw_7s zr_0_694 rfl ?_
          refine zw_3 zr_0_695 rfl ?_
          refine zw_push zr_0_696 ?_
          refine zw_16 zr_0_697 (by omega) ?_
          refine zw_100 zr_0_698 rfl (by omega) (by omega) ?_
          intro x192 ex192 hx192a hx192b
          obtain ⟨f193, ef193⟩ : ∃ v, m3 1 4 = v := ⟨_, rfl⟩
          have bf193 := ib_1_4 hIm3
          rw [ef193] at bf193
          obtain ⟨f194, ef194⟩ : ∃ v, m3 1 5 = v := ⟨_, rfl⟩
          have bf194 := ib_1_5 hIm3
          rw [ef194] at bf194
          refine zw_C zr_0_699 (Or.inl rfl) zm_116 rfl rfl ⟨Nat.le_of_ble_eq_true rfl, Nat.le_of_ble_eq_true rfl, Nat.le_of_ble_eq_true rfl, rfl, by decide⟩ (by omega) (th_116 (d := d - 1) (by omega) hIm3 (a0 := x191) (a1 := x192) (g0 := f193) (g1 := f194)   ef193 ef194  (by omega) (by omega) ) ?_
          rintro _ m195 ⟨r196, rfl, hr196a, hr196b, hIm195, gm195, po0_r196, po1_r196⟩
          have hFm195 : zFr W_0 m0 m195 := hFm3.trans gm195 rfl
          show zW E (d) 0 702 [(6, 0), (2, 0), (2, 69), (0, i2)] [(0, r196)] m195 Q
          refine zw_115 zr_0_702 rfl ?_
          refine zw_7 zr_0_703 rfl ?_
          refine zw_7s zr_0_704 rfl ?_
          refine zw_3 zr_0_705 rfl ?_
          refine zw_push zr_0_706 ?_
          refine zw_16 zr_0_707 (by omega) ?_
          refine zw_100k zr_0_708 rfl (by omega) (by omega) ex191.symm ?_
          refine zw_7s zr_0_709 rfl ?_
          refine zw_3 zr_0_710 rfl ?_
          refine zw_push zr_0_711 ?_
          refine zw_16 zr_0_712 (by omega) ?_
          refine zw_100k zr_0_713 rfl (by omega) (by omega) ex192.symm ?_
          refine zw_C zr_0_714 (Or.inl rfl) zm_180 rfl rfl ⟨Nat.le_of_ble_eq_true rfl, Nat.le_of_ble_eq_true rfl, Nat.le_of_ble_eq_true rfl, rfl, by decide⟩ (by omega) (th_180 (d := d - 1) (by omega) hIm195 (a0 := x191) (a1 := x192)   (F70 := m195 70)  rfl (by omega) (by omega) ) ?_
          rintro _ m197 ⟨r198, rfl, hr198a, hr198b, hIm197, gm197, po0_r198, po1_r198⟩
          have hFm197 : zFr W_0 m0 m197 := hFm195.trans gm197 rfl
          show zW E (d) 0 717 [(6, 0), (2, 0), (2, 69), (0, i2)] [(0, r198)] m197 Q
          obtain ⟨hkz199, hrz199⟩ := zk_wide hIm3 hv0lp18_4 gm195 ef193 ef194 po0_r196 po1_r196 gm197 po0_r198 po1_r198
          refine zw_115 zr_0_717 rfl ?_
          refine zw_42 zr_0_718 ?_
          refine zw_15 (c := 6) (L' := [(6, 0), (2, 0), (2, 69), (0, (i2 + 6))]) zr_0_1238 rfl (by decide) (by omega) rfl ?_
          refine zw_42 zr_0_1241 ?_
          exact zw_less (L := [(6, 0), (2, 0), (2, 69), (0, (i2 + 6))]) ⟨Or.inr rfl, Or.inr rfl, Or.inr rfl, Or.inr rfl, trivial⟩ (ihlp18_4 ((i2 + 6)) m197 hIm197 hFm197   (by omega) (by omega) (by assumption) (by omega))
        by_cases h201 : x9 = 15
        · refine zw_111 (t := 721) zr_0_33 (by rw [h201]; rfl) ?_
          refine zw_7 zr_0_721 rfl ?_
          refine zw_C zr_0_722 (Or.inl rfl) zm_117 rfl rfl ⟨Nat.le_of_ble_eq_true rfl, Nat.le_of_ble_eq_true rfl, Nat.le_of_ble_eq_true rfl, rfl, by decide⟩ (by omega) (th_117 (d := d - 1) (by omega) hIm3        ) ?_
          rintro _ m202 ⟨r203, rfl, hr203a, hr203b, hIm202, gm202⟩
          have hFm202 : zFr W_0 m0 m202 := hFm3.trans gm202 rfl
          show zW E (d) 0 725 [(6, 0), (2, 0), (2, 69), (0, i2)] [(0, r203)] m202 Q
          refine zw_115 zr_0_725 rfl ?_
          refine zw_7 zr_0_726 rfl ?_
          refine zw_C zr_0_727 (Or.inl rfl) zm_185 rfl rfl ⟨Nat.le_of_ble_eq_true rfl, Nat.le_of_ble_eq_true rfl, Nat.le_of_ble_eq_true rfl, rfl, by decide⟩ (by omega) (th_185 (d := d - 1) (by omega) hIm202        ) ?_
          rintro _ m204 ⟨r205, rfl, hr205a, hr205b, hIm204, gm204⟩
          have hFm204 : zFr W_0 m0 m204 := hFm202.trans gm204 rfl
          show zW E (d) 0 730 [(6, 0), (2, 0), (2, 69), (0, i2)] [(0, r205)] m204 Q
          have hkz206_0 := zk_fr hv0lp18_4 gm202
          have hkz206_1 := zk_fr hkz206_0 gm204
          refine zw_115 zr_0_730 rfl ?_
          refine zw_42 zr_0_731 ?_
          refine zw_15 (c := 6) (L' := [(6, 0), (2, 0), (2, 69), (0, (i2 + 6))]) zr_0_1238 rfl (by decide) (by omega) rfl ?_
          refine zw_42 zr_0_1241 ?_
          exact zw_less (L := [(6, 0), (2, 0), (2, 69), (0, (i2 + 6))]) ⟨Or.inr rfl, Or.inr rfl, Or.inr rfl, Or.inr rfl, trivial⟩ (ihlp18_4 ((i2 + 6)) m204 hIm204 hFm204   (by omega) (by omega) (by assumption) (by omega))
        by_cases h208 : x9 = 16
        · refine zw_111 (t := 734) zr_0_33 (by rw [h208]; rfl) ?_
          refine zw_7 zr_0_734 rfl ?_
          refine zw_7s zr_0_735 rfl ?_
          refine zw_3 zr_0_736 rfl ?_
          refine zw_push zr_0_737 ?_
          refine zw_16 zr_0_738 (by omega) ?_
          refine zw_100 zr_0_739 rfl (by omega) (by omega) ?_
          intro x209 ex209 hx209a hx209b
          refine zw_7s zr_0_740 rfl ?_
          refine zw_3 zr_0_741 rfl ?_
          refine zw_push zr_0_742 ?_
          refine zw_16 zr_0_743 (by omega) ?_
          refine zw_100 zr_0_744 rfl (by omega) (by omega) ?_
          intro x210 ex210 hx210a hx210b
          refine zw_7s zr_0_745 rfl ?_
          refine zw_3 zr_0_746 rfl ?_
          refine zw_push zr_0_747 ?_
          refine zw_16 zr_0_748 (by omega) ?_
          refine zw_100 zr_0_749 rfl (by omega) (by omega) ?_
          intro x211 ex211 hx211a hx211b
          refine zw_C zr_0_750 (Or.inl rfl) zm_118 rfl rfl ⟨Nat.le_of_ble_eq_true rfl, Nat.le_of_ble_eq_true rfl, Nat.le_of_ble_eq_true rfl, rfl, by decide⟩ (by omega) (th_118 (d := d - 1) (by omega) hIm3 (a0 := x209) (a1 := x210) (a2 := x211)      (by omega) (by omega) (by omega) ) ?_
          rintro _ m212 ⟨r213, rfl, hr213a, hr213b, hIm212, gm212⟩
          have hFm212 : zFr W_0 m0 m212 := hFm3.trans gm212 rfl
          show zW E (d) 0 753 [(6, 0), (2, 0), (2, 69), (0, i2)] [(0, r213)] m212 Q
          refine zw_115 zr_0_753 rfl ?_
          refine zw_7 zr_0_754 rfl ?_
          refine zw_7s zr_0_755 rfl ?_
          refine zw_3 zr_0_756 rfl ?_
          refine zw_push zr_0_757 ?_
          refine zw_16 zr_0_758 (by omega) ?_
          refine zw_100k zr_0_759 rfl (by omega) (by omega) ex209.symm ?_
          refine zw_7s zr_0_760 rfl ?_
          refine zw_3 zr_0_761 rfl ?_
          refine zw_push zr_0_762 ?_
          refine zw_16 zr_0_763 (by omega) ?_
          refine zw_100k zr_0_764 rfl (by omega) (by omega) ex210.symm ?_
          refine zw_7s zr_0_765 rfl ?_
          refine zw_3 zr_0_766 rfl ?_
          refine zw_push zr_0_767 ?_
          refine zw_16 zr_0_768 (by omega) ?_
          refine zw_100k zr_0_769 rfl (by omega) (by omega) ex211.symm ?_
          refine zw_C zr_0_770 (Or.inl rfl) zm_186 rfl rfl ⟨Nat.le_of_ble_eq_true rfl, Nat.le_of_ble_eq_true rfl, Nat.le_of_ble_eq_true rfl, rfl, by decide⟩ (by omega) (th_186 (d := d - 1) (by omega) hIm212 (a0 := x209) (a1 := x210) (a2 := x211)      (by omega) (by omega) (by omega) ) ?_
          rintro _ m214 ⟨r215, rfl, hr215a, hr215b, hIm214, gm214⟩
          have hFm214 : zFr W_0 m0 m214 := hFm212.trans gm214 rfl
          show zW E (d) 0 773 [(6, 0), (2, 0), (2, 69), (0, i2)] [(0, r215)] m214 Q
          have hkz216_0 := zk_fr hv0lp18_4 gm212
          have hkz216_1 := zk_fr hkz216_0 gm214
          refine zw_115 zr_0_773 rfl ?_
          refine zw_42 zr_0_774 ?_
          refine zw_15 (c := 6) (L' := [(6, 0), (2, 0), (2, 69), (0, (i2 + 6))]) zr_0_1238 rfl (by decide) (by omega) rfl ?_
          refine zw_42 zr_0_1241 ?_
          exact zw_less (L := [(6, 0), (2, 0), (2, 69), (0, (i2 + 6))]) ⟨Or.inr rfl, Or.inr rfl, Or.inr rfl, Or.inr rfl, trivial⟩ (ihlp18_4 ((i2 + 6)) m214 hIm214 hFm214   (by omega) (by omega) (by assumption) (by omega))
        by_cases h218 : x9 = 17
        · refine zw_111 (t := 777) zr_0_33 (by rw [h218]; rfl) ?_
          refine zw_7 zr_0_777 rfl ?_
          refine zw_C zr_0_778 (Or.inl rfl) zm_119 rfl rfl ⟨Nat.le_of_ble_eq_true rfl, Nat.le_of_ble_eq_true rfl, Nat.le_of_ble_eq_true rfl, rfl, by decide⟩ (by omega) (th_119 (d := d - 1) (by omega) hIm3        ) ?_
          rintro _ m219 ⟨r220, rfl, hr220a, hr220b, hIm219, gm219⟩
          have hFm219 : zFr W_0 m0 m219 := hFm3.trans gm219 rfl
          show zW E (d) 0 781 [(6, 0), (2, 0), (2, 69), (0, i2)] [(1, r220)] m219 Q
          refine zw_116 zr_0_781 rfl ?_
          refine zw_7 zr_0_782 rfl ?_
          refine zw_C zr_0_783 (Or.inl rfl) zm_187 rfl rfl ⟨Nat.le_of_ble_eq_true rfl, Nat.le_of_ble_eq_true rfl, Nat.le_of_ble_eq_true rfl, rfl, by decide⟩ (by omega) (th_187 (d := d - 1) (by omega) hIm219        ) ?_
          rintro _ m221 ⟨r222, rfl, hr222a, hr222b, hIm221, gm221⟩
          have hFm221 : zFr W_0 m0 m221 := hFm219.trans gm221 rfl
          show zW E (d) 0 786 [(6, 0), (2, 0), (2, 69), (0, i2)] [(1, r222)] m221 Q
          have hkz223_0 := zk_fr hv0lp18_4 gm219
          have hkz223_1 := zk_fr hkz223_0 gm221
          refine zw_116 zr_0_786 rfl ?_
          refine zw_42 zr_0_787 ?_
          refine zw_15 (c := 6) (L' := [(6, 0), (2, 0), (2, 69), (0, (i2 + 6))]) zr_0_1238 rfl (by decide) (by omega) rfl ?_
          refine zw_42 zr_0_1241 ?_
          exact zw_less (L := [(6, 0), (2, 0), (2, 69), (0, (i2 + 6))]) ⟨Or.inr rfl, Or.inr rfl, Or.inr rfl, Or.inr rfl, trivial⟩ (ihlp18_4 ((i2 + 6)) m221 hIm221 hFm221   (by omega) (by omega) (by assumption) (by omega))
        by_cases h225 : x9 = 18
        · refine zw_111 (t := 790) zr_0_33 (by rw [h225]; rfl) ?_
          refine zw_7 zr_0_790 rfl ?_
          refine zw_7s zr_0_791 rfl ?_
          refine zw_3 zr_0_792 rfl ?_
          refine zw_push zr_0_793 ?_
          refine zw_16 zr_0_794 (by omega) ?_
          refine zw_100 zr_0_795 rfl (by omega) (by omega) ?_
          intro x226 ex226 hx226a hx226b
          refine zw_C zr_0_796 (Or.inl rfl) zm_120 rfl rfl ⟨Nat.le_of_ble_eq_true rfl, Nat.le_of_ble_eq_true rfl, Nat.le_of_ble_eq_true rfl, rfl, by decide⟩ (by omega) (th_120 (d := d - 1) (by omega) hIm3 (a0 := x226)      (by omega) ) ?_
          rintro _ m227 ⟨r228, rfl, hr228a, hr228b, hIm227, gm227⟩
          have hFm227 : zFr W_0 m0 m227 := hFm3.trans gm227 rfl
          show zW E (d) 0 799 [(6, 0), (2, 0), (2, 69), (0, i2)] [(0, r228)] m227 Q
          refine zw_115 zr_0_799 rfl ?_
          refine zw_7 zr_0_800 rfl ?_
          refine zw_7s zr_0_801 rfl ?_
          refine zw_3 zr_0_802 rfl ?_
          refine zw_push zr_0_803 ?_
          refine zw_16 zr_0_804 (by omega) ?_
          refine zw_100k zr_0_805 rfl (by omega) (by omega) ex226.symm ?_
          refine zw_C zr_0_806 (Or.inl rfl) zm_190 rfl rfl ⟨Nat.le_of_ble_eq_true rfl, Nat.le_of_ble_eq_true rfl, Nat.le_of_ble_eq_true rfl, rfl, by decide⟩ (by omega) (th_190 (d := d - 1) (by omega) hIm227 (a0 := x226)      (by omega) ) ?_
          rintro _ m229 ⟨r230, rfl, hr230a, hr230b, hIm229, gm229⟩
          have hFm229 : zFr W_0 m0 m229 := hFm227.trans gm229 rfl
          show zW E (d) 0 809 [(6, 0), (2, 0), (2, 69), (0, i2)] [(0, r230)] m229 Q
          have hkz231_0 := zk_fr hv0lp18_4 gm227
          have hkz231_1 := zk_fr hkz231_0 gm229
          refine zw_115 zr_0_809 rfl ?_
          refine zw_42 zr_0_810 ?_
          refine zw_15 (c := 6) (L' := [(6, 0), (2, 0), (2, 69), (0, (i2 + 6))]) zr_0_1238 rfl (by decide) (by omega) rfl ?_
          refine zw_42 zr_0_1241 ?_
          exact zw_less (L := [(6, 0), (2, 0), (2, 69), (0, (i2 + 6))]) ⟨Or.inr rfl, Or.inr rfl, Or.inr rfl, Or.inr rfl, trivial⟩ (ihlp18_4 ((i2 + 6)) m229 hIm229 hFm229   (by omega) (by omega) (by assumption) (by omega))
        by_cases h233 : x9 = 19
        · refine zw_111 (t := 813) zr_0_33 (by rw [h233]; rfl) ?_
          refine zw_7 zr_0_813 rfl ?_
          refine zw_7s zr_0_814 rfl ?_
          refine zw_3 zr_0_815 rfl ?_
          refine zw_push zr_0_816 ?_
          refine zw_16 zr_0_817 (by omega) ?_
          refine zw_100 zr_0_818 rfl (by omega) (by omega) ?_
          intro x234 ex234 hx234a hx234b
          refine zw_7s zr_0_819 rfl ?_
          refine zw_3 zr_0_820 rfl ?_
          refine zw_push zr_0_821 ?_
          refine zw_16 zr_0_822 (by omega) ?_
          refine zw_100 zr_0_823 rfl (by omega) (by omega) ?_
          intro x235 ex235 hx235a hx235b
          refine zw_7s zr_0_824 rfl ?_
          refine zw_3 zr_0_825 rfl ?_
          refine zw_push zr_0_826 ?_
          refine zw_16 zr_0_827 (by omega) ?_
          refine zw_100 zr_0_828 rfl (by omega) (by omega) ?_
          intro x236 ex236 hx236a hx236b
          refine zw_C zr_0_829 (Or.inl rfl) zm_121 rfl rfl ⟨Nat.le_of_ble_eq_true rfl, Nat.le_of_ble_eq_true rfl, Nat.le_of_ble_eq_true rfl, rfl, by decide⟩ (by omega) (th_121 (d := d - 1) (by omega) hIm3 (a0 := x234) (a1 := x235) (a2 := x236)      (by omega) (by omega) (by omega) ) ?_
          rintro _ m237 ⟨r238, rfl, hr238a, hr238b, hIm237, gm237⟩
          have hFm237 : zFr W_0 m0 m237 := hFm3.trans gm237 rfl
          show zW E (d) 0 832 [(6, 0), (2, 0), (2, 69), (0, i2)] [(0, r238)] m237 Q
          refine zw_115 zr_0_832 rfl ?_
          refine zw_7 zr_0_833 rfl ?_
          refine zw_7s zr_0_834 rfl ?_
          refine zw_3 zr_0_835 rfl ?_
          refine zw_push zr_0_836 ?_
          refine zw_16 zr_0_837 (by omega) ?_
          refine zw_100k zr_0_838 rfl (by omega) (by omega) ex234.symm ?_
          refine zw_7s zr_0_839 rfl ?_
          refine zw_3 zr_0_840 rfl ?_
          refine zw_push zr_0_841 ?_
          refine zw_16 zr_0_842 (by omega) ?_
          refine zw_100k zr_0_843 rfl (by omega) (by omega) ex235.symm ?_
          refine zw_7s zr_0_844 rfl ?_
          refine zw_3 zr_0_845 rfl ?_
          refine zw_push zr_0_846 ?_
          refine zw_16 zr_0_847 (by omega) ?_
          refine zw_100k zr_0_848 rfl (by omega) (by omega) ex236.symm ?_
          refine zw_C zr_0_849 (Or.inl rfl) zm_191 rfl rfl ⟨Nat.le_of_ble_eq_true rfl, Nat.le_of_ble_eq_true rfl, Nat.le_of_ble_eq_true rfl, rfl, by decide⟩ (by omega) (th_191 (d := d - 1) (by omega) hIm237 (a0 := x234) (a1 := x235) (a2 := x236)      (by omega) (by omega) (by omega) ) ?_
          rintro _ m239 ⟨r240, rfl, hr240a, hr240b, hIm239, gm239⟩
          have hFm239 : zFr W_0 m0 m239 := hFm237.trans gm239 rfl
          show zW E (d) 0 852 [(6, 0), (2, 0), (2, 69), (0, i2)] [(0, r240)] m239 Q
          have hkz241_0 := zk_fr hv0lp18_4 gm237
          have hkz241_1 := zk_fr hkz241_0 gm239
          refine zw_115 zr_0_852 rfl ?_
          refine zw_42 zr_0_853 ?_
          refine zw_15 (c := 6) (L' := [(6, 0), (2, 0), (2, 69), (0, (i2 + 6))]) zr_0_1238 rfl (by decide) (by omega) rfl ?_
          refine zw_42 zr_0_1241 ?_
          exact zw_less (L := [(6, 0), (2, 0), (2, 69), (0, (i2 + 6))]) ⟨Or.inr rfl, Or.inr rfl, Or.inr rfl, Or.inr rfl, trivial⟩ (ihlp18_4 ((i2 + 6)) m239 hIm239 hFm239   (by omega) (by omega) (by assumption) (by omega))
        by_cases h243 : x9 = 20
        · refine zw_111 (t := 856) zr_0_33 (by rw [h243]; rfl) ?_
          refine zw_7 zr_0_856 rfl ?_
          refine zw_C zr_0_857 (Or.inl rfl) zm_122 rfl rfl ⟨Nat.le_of_ble_eq_true rfl, Nat.le_of_ble_eq_true rfl, Nat.le_of_ble_eq_true rfl, rfl, by decide⟩ (by omega) (th_122 (d := d - 1) (by omega) hIm3        ) ?_
          rintro _ m244 ⟨r245, rfl, hr245a, hr245b, hIm244, gm244⟩
          have hFm244 : zFr W_0 m0 m244 := hFm3.trans gm244 rfl
          show zW E (d) 0 860 [(6, 0), (2, 0), (2, 69), (0, i2)] [(1, r245)] m244 Q
          refine zw_116 zr_0_860 rfl ?_
          refine zw_7 zr_0_861 rfl ?_
          refine zw_C zr_0_862 (Or.inl rfl) zm_192 rfl rfl ⟨Nat.le_of_ble_eq_true rfl, Nat.le_of_ble_eq_true rfl, Nat.le_of_ble_eq_true rfl, rfl, by decide⟩ (by omega) (th_192 (d := d - 1) (by omega) hIm244        ) ?_
          rintro _ m246 ⟨r247, rfl, hr247a, hr247b, hIm246, gm246⟩
          have hFm246 : zFr W_0 m0 m246 := hFm244.trans gm246 rfl
          show zW E (d) 0 865 [(6, 0), (2, 0), (2, 69), (0, i2)] [(1, r247)] m246 Q
          have hkz248_0 := zk_fr hv0lp18_4 gm244
          have hkz248_1 := zk_fr hkz248_0 gm246
          refine zw_116 zr_0_865 rfl ?_
          refine zw_42 zr_0_866 ?_
          refine zw_15 (c := 6) (L' := [(6, 0), (2, 0), (2, 69), (0, (i2 + 6))]) zr_0_1238 rfl (by decide) (by omega) rfl ?_
          refine zw_42 zr_0_1241 ?_
          exact zw_less (L := [(6, 0), (2, 0), (2, 69), (0, (i2 + 6))]) ⟨Or.inr rfl, Or.inr rfl, Or.inr rfl, Or.inr rfl, trivial⟩ (ihlp18_4 ((i2 + 6)) m246 hIm246 hFm246   (by omega) (by omega) (by assumption) (by omega))
        by_cases h250 : x9 = 21
        · refine zw_111 (t := 869) zr_0_33 (by rw [h250]; rfl) ?_
          refine zw_7 zr_0_869 rfl ?_
          refine zw_7s zr_0_870 rfl ?_
          refine zw_3 zr_0_871 rfl ?_
          refine zw_push zr_0_872 ?_
          refine zw_16 zr_0_873 (by omega) ?_
          refine zw_100 zr_0_874 rfl (by omega) (by omega) ?_
          intro x251 ex251 hx251a hx251b
          refine zw_7s zr_0_875 rfl ?_
          refine zw_3 zr_0_876 rfl ?_
          refine zw_push zr_0_877 ?_
          refine zw_16 zr_0_878 (by omega) ?_
          refine zw_100 zr_0_879 rfl (by omega) (by omega) ?_
          intro x252 ex252 hx252a hx252b
          refine zw_7s zr_0_880 rfl ?_
          refine zw_3 zr_0_881 rfl ?_
          refine zw_push zr_0_882 ?_
          refine zw_16 zr_0_883 (by omega) ?_
          refine zw_100 zr_0_884 rfl (by omega) (by omega) ?_
          intro x253 ex253 hx253a hx253b
          refine zw_C zr_0_885 (Or.inl rfl) zm_123 rfl rfl ⟨Nat.le_of_ble_eq_true rfl, Nat.le_of_ble_eq_true rfl, Nat.le_of_ble_eq_true rfl, rfl, by decide⟩ (by omega) (th_123 (d := d - 1) (by omega) hIm3 (a0 := x251) (a1 := x252) (a2 := x253)      (by omega) (by omega) (by omega) ) ?_
          rintro _ m254 ⟨r255, rfl, hr255a, hr255b, hIm254, gm254⟩
          have hFm254 : zFr W_0 m0 m254 := hFm3.trans gm254 rfl
          show zW E (d) 0 888 [(6, 0), (2, 0), (2, 69), (0, i2)] [(0, r255)] m254 Q
          refine zw_115 zr_0_888 rfl ?_
          refine zw_7 zr_0_889 rfl ?_
          refine zw_7s zr_0_890 rfl ?_
          refine zw_3 zr_0_891 rfl ?_
          refine zw_push zr_0_892 ?_
          refine zw_16 zr_0_893 (by omega) ?_
          refine zw_100k zr_0_894 rfl (by omega) (by omega) ex251.symm ?_
          refine zw_7s zr_0_895 rfl ?_
          refine zw_3 zr_0_896 rfl ?_
          refine zw_push zr_0_897 ?_
          refine zw_16 zr_0_898 (by omega) ?_
          refine zw_100k zr_0_899 rfl (by omega) (by omega) ex252.symm ?_
          refine zw_7s zr_0_900 rfl ?_
          refine zw_3 zr_0_901 rfl ?_
          refine zw_push zr_0_902 ?_
          refine zw_16 zr_0_903 (by omega) ?_
          refine zw_100k zr_0_904 rfl (by omega) (by omega) ex253.symm ?_
          refine zw_C zr_0_905 (Or.inl rfl) zm_196 rfl rfl ⟨Nat.le_of_ble_eq_true rfl, Nat.le_of_ble_eq_true rfl, Nat.le_of_ble_eq_true rfl, rfl, by decide⟩ (by omega) (th_196 (d := d - 1) (by omega) hIm254 (a0 := x251) (a1 := x252) (a2 := x253)      (by omega) (by omega) (by omega) ) ?_
          rintro _ m256 ⟨r257, rfl, hr257a, hr257b, hIm256, gm256⟩
          have hFm256 : zFr W_0 m0 m256 := hFm254.trans gm256 rfl
          show zW E (d) 0 908 [(6, 0), (2, 0), (2, 69), (0, i2)] [(0, r257)] m256 Q
          have hkz258_0 := zk_fr hv0lp18_4 gm254
          have hkz258_1 := zk_fr hkz258_0 gm256
          refine zw_115 zr_0_908 rfl ?_
          refine zw_42 zr_0_909 ?_
          refine zw_15 (c := 6) (L' := [(6, 0), (2, 0), (2, 69), (0, (i2 + 6))]) zr_0_1238 rfl (by decide) (by omega) rfl ?_
          refine zw_42 zr_0_1241 ?_
          exact zw_less (L := [(6, 0), (2, 0), (2, 69), (0, (i2 + 6))]) ⟨Or.inr rfl, Or.inr rfl, Or.inr rfl, Or.inr rfl, trivial⟩ (ihlp18_4 ((i2 + 6)) m256 hIm256 hFm256   (by omega) (by omega) (by assumption) (by omega))
        by_cases h260 : x9 = 22
        · refine zw_111 (t := 912) zr_0_33 (by rw [h260]; rfl) ?_
          refine zw_7 zr_0_912 rfl ?_
          refine zw_C zr_0_913 (Or.inl rfl) zm_124 rfl rfl ⟨Nat.le_of_ble_eq_true rfl, Nat.le_of_ble_eq_true rfl, Nat.le_of_ble_eq_true rfl, rfl, by decide⟩ (by omega) (th_124 (d := d - 1) (by omega) hIm3        ) ?_
          rintro _ m261 ⟨r262, rfl, hr262a, hr262b, hIm261, gm261⟩
          have hFm261 : zFr W_0 m0 m261 := hFm3.trans gm261 rfl
          show zW E (d) 0 916 [(6, 0), (2, 0), (2, 69), (0, i2)] [(0, r262)] m261 Q
          refine zw_115 zr_0_916 rfl ?_
          refine zw_7 zr_0_917 rfl ?_
          refine zw_C zr_0_918 (Or.inl rfl) zm_198 rfl rfl ⟨Nat.le_of_ble_eq_true rfl, Nat.le_of_ble_eq_true rfl, Nat.le_of_ble_eq_true rfl, rfl, by decide⟩ (by omega) (th_198 (d := d - 1) (by omega) hIm261        ) ?_
          rintro _ _ ⟨r263, rfl, hr263a, hr263b, rfl⟩
          show zW E (d) 0 921 [(6, 0), (2, 0), (2, 69), (0, i2)] [(0, r263)] m261 Q
          have hkz264_0 := zk_fr hv0lp18_4 gm261
          refine zw_115 zr_0_921 rfl ?_
          refine zw_42 zr_0_922 ?_
          refine zw_15 (c := 6) (L' := [(6, 0), (2, 0), (2, 69), (0, (i2 + 6))]) zr_0_1238 rfl (by decide) (by omega) rfl ?_
          refine zw_42 zr_0_1241 ?_
          exact zw_less (L := [(6, 0), (2, 0), (2, 69), (0, (i2 + 6))]) ⟨Or.inr rfl, Or.inr rfl, Or.inr rfl, Or.inr rfl, trivial⟩ (ihlp18_4 ((i2 + 6)) m261 hIm261 hFm261   (by omega) (by omega) (by assumption) (by omega))
        by_cases h266 : x9 = 23
        · refine zw_111 (t := 925) zr_0_33 (by rw [h266]; rfl) ?_
          refine zw_7 zr_0_925 rfl ?_
          refine zw_7s zr_0_926 rfl ?_
          refine zw_3 zr_0_927 rfl ?_
          refine zw_push zr_0_928 ?_
          refine zw_16 zr_0_929 (by omega) ?_
          refine zw_100 zr_0_930 rfl (by omega) (by omega) ?_
          intro x267 ex267 hx267a hx267b
          refine zw_C zr_0_931 (Or.inl rfl) zm_125 rfl rfl ⟨Nat.le_of_ble_eq_true rfl, Nat.le_of_ble_eq_true rfl, Nat.le_of_ble_eq_true rfl, rfl, by decide⟩ (by omega) (th_125 (d := d - 1) (by omega) hIm3 (a0 := x267)      (by omega) ) ?_
          rintro _ m268 ⟨r269, rfl, hr269a, hr269b, hIm268, gm268⟩
          have hFm268 : zFr W_0 m0 m268 := hFm3.trans gm268 rfl
          show zW E (d) 0 934 [(6, 0), (2, 0), (2, 69), (0, i2)] [(0, r269)] m268 Q
          refine zw_115 zr_0_934 rfl ?_
          refine zw_7 zr_0_935 rfl ?_
          refine zw_7s zr_0_936 rfl ?_
          refine zw_3 zr_0_937 rfl ?_
          refine zw_push zr_0_938 ?_
          refine zw_16 zr_0_939 (by omega) ?_
          refine zw_100k zr_0_940 rfl (by omega) (by omega) ex267.symm ?_
          refine zw_C zr_0_941 (Or.inl rfl) zm_199 rfl rfl ⟨Nat.le_of_ble_eq_true rfl, Nat.le_of_ble_eq_true rfl, Nat.le_of_ble_eq_true rfl, rfl, by decide⟩ (by omega) (th_199 (d := d - 1) (by omega) hIm268 (a0 := x267)      (by omega) ) ?_
          rintro _ m270 ⟨r271, rfl, hr271a, hr271b, hIm270, gm270⟩
          have hFm270 : zFr W_0 m0 m270 := hFm268.trans gm270 rfl
          show zW E (d) 0 944 [(6, 0), (2, 0), (2, 69), (0, i2)] [(0, r271)] m270 Q
          have hkz272_0 := zk_fr hv0lp18_4 gm268
          have hkz272_1 := zk_fr hkz272_0 gm270
          refine zw_115 zr_0_944 rfl ?_
          refine zw_42 zr_0_945 ?_
          refine zw_15 (c := 6) (L' := [(6, 0), (2, 0), (2, 69), (0, (i2 + 6))]) zr_0_1238 rfl (by decide) (by omega) rfl ?_
          refine zw_42 zr_0_1241 ?_
          exact zw_less (L := [(6, 0), (2, 0), (2, 69), (0, (i2 + 6))]) ⟨Or.inr rfl, Or.inr rfl, Or.inr rfl, Or.inr rfl, trivial⟩ (ihlp18_4 ((i2 + 6)) m270 hIm270 hFm270   (by omega) (by omega) (by assumption) (by omega))
        by_cases h274 : x9 = 24
        · refine zw_111 (t := 948) zr_0_33 (by rw [h274]; rfl) ?_
          refine zw_7 zr_0_948 rfl ?_
          refine zw_7s zr_0_949 rfl ?_
          refine zw_3 zr_0_950 rfl ?_
          refine zw_push zr_0_951 ?_
          refine zw_16 zr_0_952 (by omega) ?_
          refine zw_100 zr_0_953 rfl (by omega) (by omega) ?_
          intro x275 ex275 hx275a hx275b
          refine zw_7s zr_0_954 rfl ?_
          refine zw_3 zr_0_955 rfl ?_
          refine zw_push zr_0_956 ?_
          refine zw_16 zr_0_957 (by omega) ?_
          refine zw_100 zr_0_958 rfl (by omega) (by omega) ?_
          intro x276 ex276 hx276a hx276b
          refine zw_7s zr_0_959 rfl ?_
          refine zw_3 zr_0_960 rfl ?_
          refine zw_push zr_0_961 ?_
          refine zw_16 zr_0_962 (by omega) ?_
          refine zw_100 zr_0_963 rfl (by omega) (by omega) ?_
          intro x277 ex277 hx277a hx277b
          refine zw_7s zr_0_964 rfl ?_
          refine zw_3 zr_0_965 rfl ?_
          refine zw_push zr_0_966 ?_
          refine zw_16 zr_0_967 (by omega) ?_
          refine zw_100 zr_0_968 rfl (by omega) (by omega) ?_
          intro x278 ex278 hx278a hx278b
          refine zw_C zr_0_969 (Or.inl rfl) zm_126 rfl rfl ⟨Nat.le_of_ble_eq_true rfl, Nat.le_of_ble_eq_true rfl, Nat.le_of_ble_eq_true rfl, rfl, by decide⟩ (by omega) (th_126 (d := d - 1) (by omega) hIm3 (a0 := x275) (a1 := x276) (a2 := x277) (a3 := x278)      (by omega) (by omega) (by omega) (by omega) ) ?_
          rintro _ m279 ⟨r280, rfl, hr280a, hr280b, hIm279, gm279⟩
          have hFm279 : zFr W_0 m0 m279 := hFm3.trans gm279 rfl
          show zW E (d) 0 972 [(6, 0), (2, 0), (2, 69), (0, i2)] [(0, r280)] m279 Q
          refine zw_115 zr_0_972 rfl ?_
          refine zw_7 zr_0_973 rfl ?_
          refine zw_7s zr_0_974 rfl ?_
          refine zw_3 zr_0_975 rfl ?_
          refine zw_push zr_0_976 ?_
          refine zw_16 zr_0_977 (by omega) ?_
          refine zw_100k zr_0_978 rfl (by omega) (by omega) ex275.symm ?_
          refine zw_7s zr_0_979 rfl ?_
          refine zw_3 zr_0_980 rfl ?_
          refine zw_push zr_0_981 ?_
          refine zw_16 zr_0_982 (by omega) ?_
          refine zw_100k zr_0_983 rfl (by omega) (by omega) ex276.symm ?_
          refine zw_7s zr_0_984 rfl ?_
          refine zw_3 zr_0_985 rfl ?_
          refine zw_push zr_0_986 ?_
          refine zw_16 zr_0_987 (by omega) ?_
          refine zw_100k zr_0_988 rfl (by omega) (by omega) ex277.symm ?_
          refine zw_7s zr_0_989 rfl ?_
          refine zw_3 zr_0_990 rfl ?_
          refine zw_push zr_0_991 ?_
          refine zw_16 zr_0_992 (by omega) ?_
          refine zw_100k zr_0_993 rfl (by omega) (by omega) ex278.symm ?_
          refine zw_C zr_0_994 (Or.inl rfl) zm_202 rfl rfl ⟨Nat.le_of_ble_eq_true rfl, Nat.le_of_ble_eq_true rfl, Nat.le_of_ble_eq_true rfl, rfl, by decide⟩ (by omega) (th_202 (d := d - 1) (by omega) hIm279 (a0 := x275) (a1 := x276) (a2 := x277) (a3 := x278)      (by omega) (by omega) (by omega) (by omega) ) ?_
          rintro _ m281 ⟨r282, rfl, hr282a, hr282b, hIm281, gm281⟩
          have hFm281 : zFr W_0 m0 m281 := hFm279.trans gm281 rfl
          show zW E (d) 0 997 [(6, 0), (2, 0), (2, 69), (0, i2)] [(0, r282)] m281 Q
          have hkz283_0 := zk_fr hv0lp18_4 gm279
          have hkz283_1 := zk_fr hkz283_0 gm281
          refine zw_115 zr_0_997 rfl ?_
          refine zw_42 zr_0_998 ?_
          refine zw_15 (c := 6) (L' := [(6, 0), (2, 0), (2, 69), (0, (i2 + 6))]) zr_0_1238 rfl (by decide) (by omega) rfl ?_
          refine zw_42 zr_0_1241 ?_
          exact zw_less (L := [(6, 0), (2, 0), (2, 69), (0, (i2 + 6))]) ⟨Or.inr rfl, Or.inr rfl, Or.inr rfl, Or.inr rfl, trivial⟩ (ihlp18_4 ((i2 + 6)) m281 hIm281 hFm281   (by omega) (by omega) (by assumption) (by omega))
        by_cases h285 : x9 = 25
        · refine zw_111 (t := 1001) zr_0_33 (by rw [h285]; rfl) ?_
          refine zw_7 zr_0_1001 rfl ?_
          refine zw_C zr_0_1002 (Or.inl rfl) zm_127 rfl rfl ⟨Nat.le_of_ble_eq_true rfl, Nat.le_of_ble_eq_true rfl, Nat.le_of_ble_eq_true rfl, rfl, by decide⟩ (by omega) (th_127 (d := d - 1) (by omega) hIm3        ) ?_
          rintro _ _ ⟨r286, rfl, hr286a, hr286b, rfl⟩
          show zW E (d) 0 1005 [(6, 0), (2, 0), (2, 69), (0, i2)] [(0, r286)] m3 Q
          refine zw_115 zr_0_1005 rfl ?_
          refine zw_7 zr_0_1006 rfl ?_
          refine zw_C zr_0_1007 (Or.inl rfl) zm_203 rfl rfl ⟨Nat.le_of_ble_eq_true rfl, Nat.le_of_ble_eq_true rfl, Nat.le_of_ble_eq_true rfl, rfl, by decide⟩ (by omega) (th_203 (d := d - 1) (by omega) hIm3        ) ?_
          rintro _ _ ⟨r287, rfl, hr287a, hr287b, rfl⟩
          show zW E (d) 0 1010 [(6, 0), (2, 0), (2, 69), (0, i2)] [(0, r287)] m3 Q
          refine zw_115 zr_0_1010 rfl ?_
          refine zw_42 zr_0_1011 ?_
          refine zw_15 (c := 6) (L' := [(6, 0), (2, 0), (2, 69), (0, (i2 + 6))]) zr_0_1238 rfl (by decide) (by omega) rfl ?_
          refine zw_42 zr_0_1241 ?_
          exact zw_less (L := [(6, 0), (2, 0), (2, 69), (0, (i2 + 6))]) ⟨Or.inr rfl, Or.inr rfl, Or.inr rfl, Or.inr rfl, trivial⟩ (ihlp18_4 ((i2 + 6)) m3 hIm3 hFm3   (by omega) (by omega) (by assumption) (by omega))
        by_cases h290 : x9 = 26
        · refine zw_111 (t := 1014) zr_0_33 (by rw [h290]; rfl) ?_
          refine zw_7 zr_0_1014 rfl ?_
          refine zw_7s zr_0_1015 rfl ?_
          refine zw_3 zr_0_1016 rfl ?_
          refine zw_push zr_0_1017 ?_
          refine zw_16 zr_0_1018 (by omega) ?_
          refine zw_100 zr_0_1019 rfl (by omega) (by omega) ?_
          intro x291 ex291 hx291a hx291b
          refine zw_7s zr_0_1020 rfl ?_
          refine zw_3 zr_0_1021 rfl ?_
          refine zw_push zr_0_1022 ?_
          refine zw_16 zr_0_1023 (by omega) ?_
          refine zw_100 zr_0_1024 rfl (by omega) (by omega) ?_
          intro x292 ex292 hx292a hx292b
          refine zw_7s zr_0_1025 rfl ?_
          refine zw_3 zr_0_1026 rfl ?_
          refine zw_push zr_0_1027 ?_
          refine zw_16 zr_0_1028 (by omega) ?_
          refine zw_100 zr_0_1029 rfl (by omega) (by omega) ?_
          intro x293 ex293 hx293a hx293b
          refine zw_7s zr_0_1030 rfl ?_
          refine zw_3 zr_0_1031 rfl ?_
          refine zw_push zr_0_1032 ?_
          refine zw_16 zr_0_1033 (by omega) ?_
          refine zw_100 zr_0_1034 rfl (by omega) (by omega) ?_
          intro x294 ex294 hx294a hx294b
          obtain ⟨f295, ef295⟩ : ∃ v, m3 1 0 = v := ⟨_, rfl⟩
          have bf295 := ib_1_0 hIm3
          rw [ef295] at bf295
          refine zw_C zr_0_1035 (Or.inl rfl) zm_129 rfl rfl ⟨Nat.le_of_ble_eq_true rfl, Nat.le_of_ble_eq_true rfl, Nat.le_of_ble_eq_true rfl, rfl, by decide⟩ (by omega) (th_129 (d := d - 1) (by omega) hIm3 (a0 := x291) (a1 := x292) (a2 := x293) (a3 := x294) (g0 := f295)  (F3 := m3 3) (F4 := m3 4) ef295 rfl rfl (by omega) (by omega) (by omega) (by omega) ) ?_
          rintro _ m296 ⟨r297, rfl, hr297a, hr297b, hIm296, gm296, po0_r297, po1_r297, po2_r297⟩
          have hFm296 : zFr W_0 m0 m296 := hFm3.trans gm296 rfl
          have km296_1_0 : m296 1 0 = f295 := (gm296 1 0 rfl).trans ef295
          show zW E (d) 0 1038 [(6, 0), (2, 0), (2, 69), (0, i2)] [(0, r297)] m296 Q
          refine zw_115 zr_0_1038 rfl ?_
          refine zw_7 zr_0_1039 rfl ?_
          refine zw_7s zr_0_1040 rfl ?_
          refine zw_3 zr_0_1041 rfl ?_
          refine zw_push zr_0_1042 ?_
          refine zw_16 zr_0_1043 (by omega) ?_
          refine zw_100k zr_0_1044 rfl (by omega) (by omega) ex291.symm ?_
          refine zw_7s zr_0_1045 rfl ?_
          refine zw_3 zr_0_1046 rfl ?_
          refine zw_push zr_0_1047 ?_
          refine zw_16 zr_0_1048 (by omega) ?_
          refine zw_100k zr_0_1049 rfl (by omega) (by omega) ex292.symm ?_
          refine zw_7s zr_0_1050 rfl ?_
          refine zw_3 zr_0_1051 rfl ?_
          refine zw_push zr_0_1052 ?_
          refine zw_16 zr_0_1053 (by omega) ?_
          refine zw_100k zr_0_1054 rfl (by omega) (by omega) ex293.symm ?_
          refine zw_7s zr_0_1055 rfl ?_
          refine zw_3 zr_0_1056 rfl ?_
          refine zw_push zr_0_1057 ?_
          refine zw_16 zr_0_1058 (by omega) ?_
          refine zw_100k zr_0_1059 rfl (by omega) (by omega) ex294.symm ?_
          obtain ⟨f298, ef298⟩ : ∃ v, m296 70 822 = v := ⟨_, rfl⟩
          have bf298 : 0 ≤ m296 70 822 ∧ m296 70 822 ≤ 10 := ib_70_players hIm296 (by omega)
          rw [ef298] at bf298
          refine zw_C zr_0_1060 (Or.inl rfl) zm_204 rfl rfl ⟨Nat.le_of_ble_eq_true rfl, Nat.le_of_ble_eq_true rfl, Nat.le_of_ble_eq_true rfl, rfl, by decide⟩ (by omega) (th_204 (d := d - 1) (by omega) hIm296 (a0 := x291) (a1 := x292) (a2 := x293) (a3 := x294) (g0 := f298)  (F70 := m296 70) ef298 rfl (by omega) (by omega) (by omega) (by omega) ) ?_
          rintro _ m299 ⟨r300, rfl, hr300a, hr300b, hIm299, gm299, po0_r300, po1_r300⟩
          have hFm299 : zFr W_0 m0 m299 := hFm296.trans gm299 rfl
          have km299_1_0 : m299 1 0 = f295 := (gm299 1 0 rfl).trans km296_1_0
          show zW E (d) 0 1063 [(6, 0), (2, 0), (2, 69), (0, i2)] [(0, r300)] m299 Q
          obtain ⟨hkz301, hrz301⟩ := zk_moves hIm3 hv0lp18_4 gm296 ef295 po0_r297 po1_r297 po2_r297 gm299 ef298 po0_r300 po1_r300
          refine zw_115 zr_0_1063 rfl ?_
          refine zw_42 zr_0_1064 ?_
          refine zw_15 (c := 6) (L' := [(6, 0), (2, 0), (2, 69), (0, (i2 + 6))]) zr_0_1238 rfl (by decide) (by omega) rfl ?_
          refine zw_42 zr_0_1241 ?_
          exact zw_less (L := [(6, 0), (2, 0), (2, 69), (0, (i2 + 6))]) ⟨Or.inr rfl, Or.inr rfl, Or.inr rfl, Or.inr rfl, trivial⟩ (ihlp18_4 ((i2 + 6)) m299 hIm299 hFm299   (by omega) (by omega) (by assumption) (by omega))
        by_cases h303 : x9 = 27
        · refine zw_111 (t := 1067) zr_0_33 (by rw [h303]; rfl) ?_
          refine zw_7 zr_0_1067 rfl ?_
          refine zw_7s zr_0_1068 rfl ?_
          refine zw_3 zr_0_1069 rfl ?_
          refine zw_push zr_0_1070 ?_
          refine zw_16 zr_0_1071 (by omega) ?_
          refine zw_100 zr_0_1072 rfl (by omega) (by omega) ?_
          intro x304 ex304 hx304a hx304b
          refine zw_7s zr_0_1073 rfl ?_
          refine zw_3 zr_0_1074 rfl ?_
          refine zw_push zr_0_1075 ?_
          refine zw_16 zr_0_1076 (by omega) ?_
          refine zw_100 zr_0_1077 rfl (by omega) (by omega) ?_
          intro x305 ex305 hx305a hx305b
          refine zw_C zr_0_1078 (Or.inl rfl) zm_130 rfl rfl ⟨Nat.le_of_ble_eq_true rfl, Nat.le_of_ble_eq_true rfl, Nat.le_of_ble_eq_true rfl, rfl, by decide⟩ (by omega) (th_130 (d := d - 1) (by omega) hIm3 (a0 := x304) (a1 := x305)   (F13 := m3 13)  rfl (by omega) (by omega) ) ?_
          rintro _ m306 ⟨r307, rfl, hr307a, hr307b, hIm306, gm306, po0_r307, po1_r307⟩
          have hFm306 : zFr W_0 m0 m306 := hFm3.trans gm306 rfl
          show zW E (d) 0 1081 [(6, 0), (2, 0), (2, 69), (0, i2)] [(0, r307)] m306 Q
          refine zw_115 zr_0_1081 rfl ?_
          refine zw_7 zr_0_1082 rfl ?_
          refine zw_7s zr_0_1083 rfl ?_
          refine zw_3 zr_0_1084 rfl ?_
          refine zw_push zr_0_1085 ?_
          refine zw_16 zr_0_1086 (by omega) ?_
          refine zw_100k zr_0_1087 rfl (by omega) (by omega) ex304.symm ?_
          refine zw_7s zr_0_1088 rfl ?_
          refine zw_3 zr_0_1089 rfl ?_
          refine zw_push zr_0_1090 ?_
          refine zw_16 zr_0_1091 (by omega) ?_
          refine zw_100k zr_0_1092 rfl (by omega) (by omega) ex305.symm ?_
          refine zw_C zr_0_1093 (Or.inl rfl) zm_205 rfl rfl ⟨Nat.le_of_ble_eq_true rfl, Nat.le_of_ble_eq_true rfl, Nat.le_of_ble_eq_true rfl, rfl, by decide⟩ (by omega) (th_205 (d := d - 1) (by omega) hIm306 (a0 := x304) (a1 := x305)   (F70 := m306 70)  rfl (by omega) (by omega) ) ?_
          rintro _ m308 ⟨r309, rfl, hr309a, hr309b, hIm308, gm308, po0_r309, po1_r309⟩
          have hFm308 : zFr W_0 m0 m308 := hFm306.trans gm308 rfl
          show zW E (d) 0 1096 [(6, 0), (2, 0), (2, 69), (0, i2)] [(0, r309)] m308 Q
          obtain ⟨hkz310, hrz310⟩ := zk_weight hIm3 hv0lp18_4 gm306 po0_r307 po1_r307 gm308 po0_r309 po1_r309
          refine zw_115 zr_0_1096 rfl ?_
          refine zw_42 zr_0_1097 ?_
          refine zw_15 (c := 6) (L' := [(6, 0), (2, 0), (2, 69), (0, (i2 + 6))]) zr_0_1238 rfl (by decide) (by omega) rfl ?_
          refine zw_42 zr_0_1241 ?_
          exact zw_less (L := [(6, 0), (2, 0), (2, 69), (0, (i2 + 6))]) ⟨Or.inr rfl, Or.inr rfl, Or.inr rfl, Or.inr rfl, trivial⟩ (ihlp18_4 ((i2 + 6)) m308 hIm308 hFm308   (by omega) (by omega) (by assumption) (by omega))
        by_cases h312 : x9 = 28
        · refine zw_111 (t := 1100) zr_0_33 (by rw [h312]; rfl) ?_
          refine zw_7 zr_0_1100 rfl ?_
          refine zw_7s zr_0_1101 rfl ?_
          refine zw_3 zr_0_1102 rfl ?_
          refine zw_push zr_0_1103 ?_
          refine zw_16 zr_0_1104 (by omega) ?_
          refine zw_100 zr_0_1105 rfl (by omega) (by omega) ?_
          intro x313 ex313 hx313a hx313b
          refine zw_7s zr_0_1106 rfl ?_
          refine zw_3 zr_0_1107 rfl ?_
          refine zw_push zr_0_1108 ?_
          refine zw_16 zr_0_1109 (by omega) ?_
          refine zw_100 zr_0_1110 rfl (by omega) (by omega) ?_
          intro x314 ex314 hx314a hx314b
          refine zw_C zr_0_1111 (Or.inl rfl) zm_132 rfl rfl ⟨Nat.le_of_ble_eq_true rfl, Nat.le_of_ble_eq_true rfl, Nat.le_of_ble_eq_true rfl, rfl, by decide⟩ (by omega) (th_132 (d := d - 1) (by omega) hIm3 (a0 := x313) (a1 := x314)      (by omega) (by omega) ) ?_
          rintro _ m315 ⟨r316, rfl, hr316a, hr316b, hIm315, gm315⟩
          have hFm315 : zFr W_0 m0 m315 := hFm3.trans gm315 rfl
          show zW E (d) 0 1114 [(6, 0), (2, 0), (2, 69), (0, i2)] [(0, r316)] m315 Q
          refine zw_115 zr_0_1114 rfl ?_
          refine zw_7 zr_0_1115 rfl ?_
          refine zw_7s zr_0_1116 rfl ?_
          refine zw_3 zr_0_1117 rfl ?_
          refine zw_push zr_0_1118 ?_
          refine zw_16 zr_0_1119 (by omega) ?_
          refine zw_100k zr_0_1120 rfl (by omega) (by omega) ex313.symm ?_
          refine zw_7s zr_0_1121 rfl ?_
          refine zw_3 zr_0_1122 rfl ?_
          refine zw_push zr_0_1123 ?_
          refine zw_16 zr_0_1124 (by omega) ?_
          refine zw_100k zr_0_1125 rfl (by omega) (by omega) ex314.symm ?_
          refine zw_C zr_0_1126 (Or.inl rfl) zm_206 rfl rfl ⟨Nat.le_of_ble_eq_true rfl, Nat.le_of_ble_eq_true rfl, Nat.le_of_ble_eq_true rfl, rfl, by decide⟩ (by omega) (th_206 (d := d - 1) (by omega) hIm315 (a0 := x313) (a1 := x314)      (by omega) (by omega) ) ?_
          rintro _ m317 ⟨r318, rfl, hr318a, hr318b, hIm317, gm317⟩
          have hFm317 : zFr W_0 m0 m317 := hFm315.trans gm317 rfl
          show zW E (d) 0 1129 [(6, 0), (2, 0), (2, 69), (0, i2)] [(0, r318)] m317 Q
          have hkz319_0 := zk_fr hv0lp18_4 gm315
          have hkz319_1 := zk_fr hkz319_0 gm317
          refine zw_115 zr_0_1129 rfl ?_
          refine zw_42 zr_0_1130 ?_
          refine zw_15 (c := 6) (L' := [(6, 0), (2, 0), (2, 69), (0, (i2 + 6))]) zr_0_1238 rfl (by decide) (by omega) rfl ?_
          refine zw_42 zr_0_1241 ?_
          exact zw_less (L := [(6, 0), (2, 0), (2, 69), (0, (i2 + 6))]) ⟨Or.inr rfl, Or.inr rfl, Or.inr rfl, Or.inr rfl, trivial⟩ (ihlp18_4 ((i2 + 6)) m317 hIm317 hFm317   (by omega) (by omega) (by assumption) (by omega))
        by_cases h321 : x9 = 29
        · refine zw_111 (t := 1133) zr_0_33 (by rw [h321]; rfl) ?_
          refine zw_7 zr_0_1133 rfl ?_
          refine zw_7s zr_0_1134 rfl ?_
          refine zw_3 zr_0_1135 rfl ?_
          refine zw_push zr_0_1136 ?_
          refine zw_16 zr_0_1137 (by omega) ?_
          refine zw_100 zr_0_1138 rfl (by omega) (by omega) ?_
          intro x322 ex322 hx322a hx322b
          refine zw_C zr_0_1139 (Or.inl rfl) zm_133 rfl rfl ⟨Nat.le_of_ble_eq_true rfl, Nat.le_of_ble_eq_true rfl, Nat.le_of_ble_eq_true rfl, rfl, by decide⟩ (by omega) (th_133 (d := d - 1) (by omega) hIm3 (a0 := x322)      (by omega) ) ?_
          rintro _ _ ⟨r323, rfl, hr323a, hr323b, rfl⟩
          show zW E (d) 0 1142 [(6, 0), (2, 0), (2, 69), (0, i2)] [(1, r323)] m3 Q
          refine zw_116 zr_0_1142 rfl ?_
          refine zw_7 zr_0_1143 rfl ?_
          refine zw_7s zr_0_1144 rfl ?_
          refine zw_3 zr_0_1145 rfl ?_
          refine zw_push zr_0_1146 ?_
          refine zw_16 zr_0_1147 (by omega) ?_
          refine zw_100k zr_0_1148 rfl (by omega) (by omega) ex322.symm ?_
          refine zw_C zr_0_1149 (Or.inl rfl) zm_207 rfl rfl ⟨Nat.le_of_ble_eq_true rfl, Nat.le_of_ble_eq_true rfl, Nat.le_of_ble_eq_true rfl, rfl, by decide⟩ (by omega) (th_207 (d := d - 1) (by omega) hIm3 (a0 := x322)      (by omega) ) ?_
          rintro _ _ ⟨r324, rfl, hr324a, hr324b, rfl⟩
          show zW E (d) 0 1152 [(6, 0), (2, 0), (2, 69), (0, i2)] [(1, r324)] m3 Q
          refine zw_116 zr_0_1152 rfl ?_
          refine zw_42 zr_0_1153 ?_
          refine zw_15 (c := 6) (L' := [(6, 0), (2, 0), (2, 69), (0, (i2 + 6))]) zr_0_1238 rfl (by decide) (by omega) rfl ?_
          refine zw_42 zr_0_1241 ?_
          exact zw_less (L := [(6, 0), (2, 0), (2, 69), (0, (i2 + 6))]) ⟨Or.inr rfl, Or.inr rfl, Or.inr rfl, Or.inr rfl, trivial⟩ (ihlp18_4 ((i2 + 6)) m3 hIm3 hFm3   (by omega) (by omega) (by assumption) (by omega))
        by_cases h327 : x9 = 30
        · refine zw_111 (t := 1156) zr_0_33 (by rw [h327]; rfl) ?_
          refine zw_7 zr_0_1156 rfl ?_
          refine zw_7s zr_0_1157 rfl ?_
          refine zw_3 zr_0_1158 rfl ?_
          refine zw_push zr_0_1159 ?_
          refine zw_16 zr_0_1160 (by omega) ?_
          refine zw_100 zr_0_1161 rfl (by omega) (by omega) ?_
          intro x328 ex328 hx328a hx328b
          refine zw_C zr_0_1162 (Or.inl rfl) zm_134 rfl rfl ⟨Nat.le_of_ble_eq_true rfl, Nat.le_of_ble_eq_true rfl, Nat.le_of_ble_eq_true rfl, rfl, by decide⟩ (by omega) (th_134 (d := d - 1) (by omega) hIm3 (a0 := x328)      (by omega) ) ?_
          rintro _ m329 ⟨r330, rfl, hr330a, hr330b, hIm329, gm329, po0_r330⟩
          have hFm329 : zFr W_0 m0 m329 := hFm3.trans gm329 rfl
          show zW E (d) 0 1165 [(6, 0), (2, 0), (2, 69), (0, i2)] [(0, r330)] m329 Q
          refine zw_115 zr_0_1165 rfl ?_
          refine zw_7 zr_0_1166 rfl ?_
          refine zw_7s zr_0_1167 rfl ?_
          refine zw_3 zr_0_1168 rfl ?_
          refine zw_push zr_0_1169 ?_
          refine zw_16 zr_0_1170 (by omega) ?_
          refine zw_100k zr_0_1171 rfl (by omega) (by omega) ex328.symm ?_
          refine zw_C zr_0_1172 (Or.inl rfl) zm_208 rfl rfl ⟨Nat.le_of_ble_eq_true rfl, Nat.le_of_ble_eq_true rfl, Nat.le_of_ble_eq_true rfl, rfl, by decide⟩ (by omega) (th_208 (d := d - 1) (by omega) hIm329 (a0 := x328)   (F70 := m329 70) (F71 := m329 71) (F72 := m329 72)  rfl rfl rfl (by omega) ) ?_
          rintro _ m331 ⟨r332, rfl, hr332a, hr332b, hIm331, gm331, po0_r332⟩
          have hFm331 : zFr W_0 m0 m331 := hFm329.trans gm331 rfl
          show zW E (d) 0 1175 [(6, 0), (2, 0), (2, 69), (0, i2)] [(0, r332)] m331 Q
          obtain ⟨hkz333, hrz333⟩ := zk_image hv0lp18_4 gm329 po0_r330 gm331 po0_r332
          refine zw_115 zr_0_1175 rfl ?_
          refine zw_42 zr_0_1176 ?_
          refine zw_15 (c := 6) (L' := [(6, 0), (2, 0), (2, 69), (0, (i2 + 6))]) zr_0_1238 rfl (by decide) (by omega) rfl ?_
          refine zw_42 zr_0_1241 ?_
          exact zw_less (L := [(6, 0), (2, 0), (2, 69), (0, (i2 + 6))]) ⟨Or.inr rfl, Or.inr rfl, Or.inr rfl, Or.inr rfl, trivial⟩ (ihlp18_4 ((i2 + 6)) m331 hIm331 hFm331   (by omega) (by omega) (by assumption) (by omega))
        by_cases h335 : x9 = 31
        · refine zw_111 (t := 1179) zr_0_33 (by rw [h335]; rfl) ?_
          refine zw_7 zr_0_1179 rfl ?_
          refine zw_7s zr_0_1180 rfl ?_
          refine zw_3 zr_0_1181 rfl ?_
          refine zw_push zr_0_1182 ?_
          refine zw_16 zr_0_1183 (by omega) ?_
          refine zw_100 zr_0_1184 rfl (by omega) (by omega) ?_
          intro x336 ex336 hx336a hx336b
          refine zw_C zr_0_1185 (Or.inl rfl) zm_135 rfl rfl ⟨Nat.le_of_ble_eq_true rfl, Nat.le_of_ble_eq_true rfl, Nat.le_of_ble_eq_true rfl, rfl, by decide⟩ (by omega) (th_135 (d := d - 1) (by omega) hIm3 (a0 := x336)   (F41 := m3 41)  rfl (by omega) ) ?_
          rintro _ m337 ⟨r338, rfl, hr338a, hr338b, hIm337, gm337, po0_r338⟩
          have hFm337 : zFr W_0 m0 m337 := hFm3.trans gm337 rfl
          show zW E (d) 0 1188 [(6, 0), (2, 0), (2, 69), (0, i2)] [(0, r338)] m337 Q
          refine zw_115 zr_0_1188 rfl ?_
          refine zw_7 zr_0_1189 rfl ?_
          refine zw_7s zr_0_1190 rfl ?_
          refine zw_3 zr_0_1191 rfl ?_
          refine zw_push zr_0_1192 ?_
          refine zw_16 zr_0_1193 (by omega) ?_
          refine zw_100k zr_0_1194 rfl (by omega) (by omega) ex336.symm ?_
          refine zw_C zr_0_1195 (Or.inl rfl) zm_209 rfl rfl ⟨Nat.le_of_ble_eq_true rfl, Nat.le_of_ble_eq_true rfl, Nat.le_of_ble_eq_true rfl, rfl, by decide⟩ (by omega) (th_209 (d := d - 1) (by omega) hIm337 (a0 := x336)   (F70 := m337 70) (F71 := m337 71) (F72 := m337 72)  rfl rfl rfl (by omega) ) ?_
          rintro _ m339 ⟨r340, rfl, hr340a, hr340b, hIm339, gm339, po0_r340⟩
          have hFm339 : zFr W_0 m0 m339 := hFm337.trans gm339 rfl
          show zW E (d) 0 1198 [(6, 0), (2, 0), (2, 69), (0, i2)] [(0, r340)] m339 Q
          obtain ⟨hkz341, hrz341⟩ := zk_from hv0lp18_4 gm337 po0_r338 gm339 po0_r340
          refine zw_115 zr_0_1198 rfl ?_
          refine zw_42 zr_0_1199 ?_
          refine zw_15 (c := 6) (L' := [(6, 0), (2, 0), (2, 69), (0, (i2 + 6))]) zr_0_1238 rfl (by decide) (by omega) rfl ?_
          refine zw_42 zr_0_1241 ?_
          exact zw_less (L := [(6, 0), (2, 0), (2, 69), (0, (i2 + 6))]) ⟨Or.inr rfl, Or.inr rfl, Or.inr rfl, Or.inr rfl, trivial⟩ (ihlp18_4 ((i2 + 6)) m339 hIm339 hFm339   (by omega) (by omega) (by assumption) (by omega))
        by_cases h343 : x9 = 32
        · refine zw_111 (t := 1202) zr_0_33 (by rw [h343]; rfl) ?_
          refine zw_7 zr_0_1202 rfl ?_
          refine zw_7s zr_0_1203 rfl ?_
          refine zw_3 zr_0_1204 rfl ?_
          refine zw_push zr_0_1205 ?_
          refine zw_16 zr_0_1206 (by omega) ?_
          refine zw_100 zr_0_1207 rfl (by omega) (by omega) ?_
          intro x344 ex344 hx344a hx344b
          refine zw_C zr_0_1208 (Or.inl rfl) zm_137 rfl rfl ⟨Nat.le_of_ble_eq_true rfl, Nat.le_of_ble_eq_true rfl, Nat.le_of_ble_eq_true rfl, rfl, by decide⟩ (by omega) (th_137 (d := d - 1) (by omega) hIm3 (a0 := x344)      (by omega) ) ?_
          rintro _ _ ⟨r345, rfl, hr345a, hr345b, rfl⟩
          show zW E (d) 0 1211 [(6, 0), (2, 0), (2, 69), (0, i2)] [(0, r345)] m3 Q
          refine zw_115 zr_0_1211 rfl ?_
          refine zw_7 zr_0_1212 rfl ?_
          refine zw_7s zr_0_1213 rfl ?_
          refine zw_3 zr_0_1214 rfl ?_
          refine zw_push zr_0_1215 ?_
          refine zw_16 zr_0_1216 (by omega) ?_
          refine zw_100k zr_0_1217 rfl (by omega) (by omega) ex344.symm ?_
          refine zw_C zr_0_1218 (Or.inl rfl) zm_210 rfl rfl ⟨Nat.le_of_ble_eq_true rfl, Nat.le_of_ble_eq_true rfl, Nat.le_of_ble_eq_true rfl, rfl, by decide⟩ (by omega) (th_210 (d := d - 1) (by omega) hIm3 (a0 := x344)      (by omega) ) ?_
          rintro _ _ ⟨r346, rfl, hr346a, hr346b, rfl⟩
          show zW E (d) 0 1221 [(6, 0), (2, 0), (2, 69), (0, i2)] [(0, r346)] m3 Q
          refine zw_115 zr_0_1221 rfl ?_
          refine zw_42 zr_0_1222 ?_
          refine zw_15 (c := 6) (L' := [(6, 0), (2, 0), (2, 69), (0, (i2 + 6))]) zr_0_1238 rfl (by decide) (by omega) rfl ?_
          refine zw_42 zr_0_1241 ?_
          exact zw_less (L := [(6, 0), (2, 0), (2, 69), (0, (i2 + 6))]) ⟨Or.inr rfl, Or.inr rfl, Or.inr rfl, Or.inr rfl, trivial⟩ (ihlp18_4 ((i2 + 6)) m3 hIm3 hFm3   (by omega) (by omega) (by assumption) (by omega))
        by_cases h349 : x9 = 33
        · refine zw_111 (t := 1225) zr_0_33 (by rw [h349]; rfl) ?_
          refine zw_7 zr_0_1225 rfl ?_
          refine zw_C zr_0_1226 (Or.inl rfl) zm_138 rfl rfl ⟨Nat.le_of_ble_eq_true rfl, Nat.le_of_ble_eq_true rfl, Nat.le_of_ble_eq_true rfl, rfl, by decide⟩ (by omega) (th_138 (d := d - 1) (by omega) hIm3        ) ?_
          rintro _ _ ⟨r350, rfl, hr350a, hr350b, rfl⟩
          show zW E (d) 0 1229 [(6, 0), (2, 0), (2, 69), (0, i2)] [(1, r350)] m3 Q
          refine zw_116 zr_0_1229 rfl ?_
          refine zw_7 zr_0_1230 rfl ?_
          refine zw_C zr_0_1231 (Or.inl rfl) zm_212 rfl rfl ⟨Nat.le_of_ble_eq_true rfl, Nat.le_of_ble_eq_true rfl, Nat.le_of_ble_eq_true rfl, rfl, by decide⟩ (by omega) (th_212 (d := d - 1) (by omega) hIm3        ) ?_
          rintro _ _ ⟨r351, rfl, hr351a, hr351b, rfl⟩
          show zW E (d) 0 1234 [(6, 0), (2, 0), (2, 69), (0, i2)] [(1, r351)] m3 Q
          refine zw_116 zr_0_1234 rfl ?_
          refine zw_42 zr_0_1235 ?_
          refine zw_15 (c := 6) (L' := [(6, 0), (2, 0), (2, 69), (0, (i2 + 6))]) zr_0_1238 rfl (by decide) (by omega) rfl ?_
          refine zw_42 zr_0_1241 ?_
          exact zw_less (L := [(6, 0), (2, 0), (2, 69), (0, (i2 + 6))]) ⟨Or.inr rfl, Or.inr rfl, Or.inr rfl, Or.inr rfl, trivial⟩ (ihlp18_4 ((i2 + 6)) m3 hIm3 hFm3   (by omega) (by omega) (by assumption) (by omega))
        refine zw_111d (t := 1238) zr_0_33 (by omega) rfl ?_
        refine zw_15 (c := 6) (L' := [(6, 0), (2, 0), (2, 69), (0, (i2 + 6))]) zr_0_1238 rfl (by decide) (by omega) rfl ?_
        refine zw_42 zr_0_1241 ?_
        exact zw_less (L := [(6, 0), (2, 0), (2, 69), (0, (i2 + 6))]) ⟨Or.inr rfl, Or.inr rfl, Or.inr rfl, Or.inr rfl, trivial⟩ (ihlp18_4 ((i2 + 6)) m3 hIm3 hFm3   (by omega) (by omega) (by assumption) (by omega))
  exact lp18_4 _ (0) m0 hI0 hF0   (by omega) (by omega) (hK0) (Nat.lt_succ_self _)
