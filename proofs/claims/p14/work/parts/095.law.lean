abbrev W_0 : List (Nat × Nat) := [(1, 0), (1, 1), (1, 2), (1, 3), (1, 4), (1, 5), (2, 1000), (3, 1000), (4, 1000), (5, 1000), (6, 1000), (7, 1000), (8, 1000), (9, 1000), (10, 1000), (11, 1000), (12, 1000), (13, 1000), (15, 0), (15, 1), (15, 2), (15, 3), (15, 4), (15, 5), (16, 1000), (17, 1000), (18, 1000), (19, 1000), (20, 1000), (21, 1000), (22, 1000), (23, 1000), (24, 1000), (25, 1000), (26, 1000), (27, 1000), (28, 0), (28, 1), (28, 2), (28, 3), (28, 4), (28, 5), (29, 1000), (30, 1000), (31, 1000), (32, 1000), (33, 1000), (34, 1000), (35, 1000), (36, 1000), (37, 1000), (38, 1000), (39, 1000), (40, 1000), (41, 1000), (42, 0), (42, 1), (43, 5), (44, 1000), (45, 1), (45, 5), (45, 6), (45, 7), (45, 8), (45, 9), (46, 1000), (47, 1000), (48, 1000), (49, 1000), (50, 1000), (51, 1000), (52, 0), (52, 1), (52, 2), (53, 1000), (54, 1000), (55, 5), (56, 1000), (57, 1000), (58, 1000), (59, 1000), (61, 1000), (62, 1000), (63, 0), (64, 1000), (65, 1000), (66, 1000), (67, 1000), (68, 1000), (69, 3), (69, 4), (69, 5), (69, 6), (69, 7), (69, 9), (69, 11), (69, 13), (69, 17), (69, 18), (69, 23), (69, 24), (70, 1000), (71, 1000), (72, 1000), (73, 1000), (74, 1000), (75, 1000), (76, 1000), (77, 1000), (78, 1000), (79, 1000), (80, 1000), (81, 1000), (82, 1000), (83, 1000), (84, 1000)]
set_option maxHeartbeats 40000000 in
theorem th_0 {E : zE} {d : Nat} {m0 : zM} (hd : 97 ≤ d) (hI0 : zInv m0) (hK0 : qK m0) {n1 : Int} (hn1 : (E.1 : Int) = n1) (hn2 : n1 ≤ 3072) : zW E d 0 18 [(6, 0), (2, 0), (2, 69), (0, 0)] [] m0 (fun v m' => ∃ r : Int, v = (0, r) ∧ 1 ≤ r ∧ r ≤ 1 ∧ zInv m' ∧ zFr W_0 m0 m') := by
  have hF0 : zFr W_0 m0 m0 := zFr.rfl
  generalize hQ : (fun (v : zV) (m' : zM) => ∃ r : Int, v = (0, r) ∧ 1 ≤ r ∧ r ≤ 1 ∧ zInv m' ∧ zFr W_0 m0 m') = Q
  have lp18_4 : ∀ (nlp18_4 : Nat) (i2 : Int) (m3 : zM), zInv m3 → zFr W_0 m0 m3 → 0 ≤ i2 → i2 ≤ 9999 → (qK m3) → (3078 - i2).toNat < nlp18_4 → zW E (d) 0 18 [(6, 0), (2, 0), (2, 69), (0, i2)] [] m3 Q := by
    intro nlp18_4
    induction nlp18_4 with
    | zero =>
      intros
      exact absurd (by assumption : _ < 0) (Nat.not_lt_zero _)
    | succ nlp18_4 ihlp18_4 =>
      intro i2 m3 hIm3 hFm3 li2 ui2 hv0lp18_4 hmlp18_4
      refine zw_3 zr_0_18 rfl ?_
      refine zw_7s zr_0_19 rfl ?_
      refine zw_101n zr_0_20 rfl (by omega) hn1 ?_
      refine zw_push zr_0_21 ?_
      refine zw_17 zr_0_23 (by omega) ?_
      refine zw_41_2 zr_0_24 ?_ ?_
      · intro h6
        refine zw_push zr_0_1244 ?_
        refine zw_R zr_0_1245 (by decide) zm_0 (v := (0, 1)) (zRetB (by omega)) ?_
        rw [← hQ]; exact ⟨_, rfl, by omega, by omega, hIm3, hFm3⟩
      · intro h7
        refine zw_7s zr_0_27 rfl ?_
        refine zw_3 zr_0_28 rfl ?_
        refine zw_100 zr_0_29 rfl (by omega) (by omega) ?_
        intro x8 ex8 hx8a hx8b
        clear ex8
        refine zw_push zr_0_30 ?_
        refine zw_21m zr_0_32 (by omega) (by omega) ?_
        intro x9 hx9a hx9b
        by_cases h10 : x9 = 0
        · refine zw_111 (t := 184) zr_0_33 (by rw [h10]; rfl) ?_
          refine zw_7 zr_0_184 rfl ?_
          refine zw_7s zr_0_185 rfl ?_
          refine zw_3 zr_0_186 rfl ?_
          refine zw_push zr_0_187 ?_
          refine zw_16 zr_0_188 (by omega) ?_
          refine zw_100 zr_0_189 rfl (by omega) (by omega) ?_
          intro x11 ex11 hx11a hx11b
          obtain ⟨f12, ef12⟩ : ∃ v, m3 1 0 = v := ⟨_, rfl⟩
          have bf12 := ib_1_0 hIm3
          rw [ef12] at bf12
          refine zw_C zr_0_190 (Or.inl rfl) zm_99 rfl rfl ⟨Nat.le_of_ble_eq_true rfl, Nat.le_of_ble_eq_true rfl, Nat.le_of_ble_eq_true rfl, rfl, by decide⟩ (by omega) (th_99 (d := d - 1) (by omega) hIm3 (a0 := x11) (g0 := f12)  (F2 := m3 2) ef12 rfl (by omega) ) ?_
          rintro _ m13 ⟨r14, rfl, hr14a, hr14b, hIm13, gm13, po0_r14, po1_r14, po2_r14⟩
          have hFm13 : zFr W_0 m0 m13 := hFm3.trans gm13 rfl
          show zW E (d) 0 193 [(6, 0), (2, 0), (2, 69), (0, i2)] [(0, r14)] m13 Q
          refine zw_115 zr_0_193 rfl ?_
          refine zw_7 zr_0_194 rfl ?_
          refine zw_7s zr_0_195 rfl ?_
          refine zw_3 zr_0_196 rfl ?_
          refine zw_push zr_0_197 ?_
          refine zw_16 zr_0_198 (by omega) ?_
          refine zw_100k zr_0_199 rfl (by omega) (by omega) ex11.symm ?_
          obtain ⟨f15, ef15⟩ : ∃ v, m13 70 822 = v := ⟨_, rfl⟩
          have bf15 : 0 ≤ m13 70 822 ∧ m13 70 822 ≤ 10 := ib_70_players hIm13 (by omega)
          rw [ef15] at bf15
          refine zw_C zr_0_200 (Or.inl rfl) zm_145 rfl rfl ⟨Nat.le_of_ble_eq_true rfl, Nat.le_of_ble_eq_true rfl, Nat.le_of_ble_eq_true rfl, rfl, by decide⟩ (by omega) (th_145 (d := d - 1) (by omega) hIm13 (a0 := x11) (g0 := f15)  (F70 := m13 70) ef15 rfl (by omega) ) ?_
          rintro _ m16 ⟨r17, rfl, hr17a, hr17b, hIm16, gm16, po0_r17, po1_r17⟩
          have hFm16 : zFr W_0 m0 m16 := hFm13.trans gm16 rfl
          show zW E (d) 0 203 [(6, 0), (2, 0), (2, 69), (0, i2)] [(0, r17)] m16 Q
          obtain ⟨hkz18, hrz18⟩ := zk_player hIm3 hv0lp18_4 gm13 ef12 po0_r14 po1_r14 po2_r14 gm16 ef15 po0_r17 po1_r17
          refine zw_115 zr_0_203 rfl ?_
          refine zw_42 zr_0_204 ?_
          refine zw_15 (c := 6) (L' := [(6, 0), (2, 0), (2, 69), (0, (i2 + 6))]) zr_0_1238 rfl (by decide) (by omega) rfl ?_
          refine zw_42 zr_0_1241 ?_
          exact zw_less (L := [(6, 0), (2, 0), (2, 69), (0, (i2 + 6))]) ⟨Or.inr rfl, Or.inr rfl, Or.inr rfl, Or.inr rfl, trivial⟩ (ihlp18_4 ((i2 + 6)) m16 hIm16 hFm16   (by omega) (by omega) (by assumption) (by omega))
        by_cases h20 : x9 = 1
        · refine zw_111 (t := 207) zr_0_33 (by rw [h20]; rfl) ?_
          refine zw_7 zr_0_207 rfl ?_
          refine zw_7s zr_0_208 rfl ?_
          refine zw_3 zr_0_209 rfl ?_
          refine zw_push zr_0_210 ?_
          refine zw_16 zr_0_211 (by omega) ?_
          refine zw_100 zr_0_212 rfl (by omega) (by omega) ?_
          intro x21 ex21 hx21a hx21b
          refine zw_7s zr_0_213 rfl ?_
          refine zw_3 zr_0_214 rfl ?_
          refine zw_push zr_0_215 ?_
          refine zw_16 zr_0_216 (by omega) ?_
          refine zw_100 zr_0_217 rfl (by omega) (by omega) ?_
          intro x22 ex22 hx22a hx22b
          refine zw_7s zr_0_218 rfl ?_
          refine zw_3 zr_0_219 rfl ?_
          refine zw_push zr_0_220 ?_
          refine zw_16 zr_0_221 (by omega) ?_
          refine zw_100 zr_0_222 rfl (by omega) (by omega) ?_
          intro x23 ex23 hx23a hx23b
          refine zw_7s zr_0_223 rfl ?_
          refine zw_3 zr_0_224 rfl ?_
          refine zw_push zr_0_225 ?_
          refine zw_16 zr_0_226 (by omega) ?_
          refine zw_100 zr_0_227 rfl (by omega) (by omega) ?_
          intro x24 ex24 hx24a hx24b
          refine zw_7s zr_0_228 rfl ?_
          refine zw_3 zr_0_229 rfl ?_
          refine zw_push zr_0_230 ?_
          refine zw_16 zr_0_231 (by omega) ?_
          refine zw_100 zr_0_232 rfl (by omega) (by omega) ?_
          intro x25 ex25 hx25a hx25b
          refine zw_40_1 zr_0_233 ?_ ?_
          · intro h26
            refine zw_push zr_0_240 ?_
            obtain ⟨f27, ef27⟩ : ∃ v, m3 1 0 = v := ⟨_, rfl⟩
            have bf27 := ib_1_0 hIm3
            rw [ef27] at bf27
            obtain ⟨f28, ef28⟩ : ∃ v, m3 1 1 = v := ⟨_, rfl⟩
            have bf28 := ib_1_1 hIm3
            rw [ef28] at bf28
            obtain ⟨f29, ef29⟩ : ∃ v, m3 1 2 = v := ⟨_, rfl⟩
            have bf29 := ib_1_2 hIm3
            rw [ef29] at bf29
            refine zw_C zr_0_241 (Or.inl rfl) zm_102 rfl rfl ⟨Nat.le_of_ble_eq_true rfl, Nat.le_of_ble_eq_true rfl, Nat.le_of_ble_eq_true rfl, rfl, by decide⟩ (by omega) (th_102 (d := d - 1) (by omega) hIm3 (a0 := x21) (a1 := x22) (a2 := x23) (a3 := x24) (a4 := 0) (g0 := f27) (g1 := f28) (g2 := f29)  (F5 := m3 5) (F6 := m3 6) (F7 := m3 7) (F8 := m3 8) ef27 ef28 ef29 rfl rfl rfl rfl (by omega) (by omega) (by omega) (by omega) (by omega) ) ?_
            rintro _ m30 ⟨r31, rfl, hr31a, hr31b, hIm30, gm30, po0_r31, po1_r31, po2_r31, po3_r31, po4_r31, po5_r31, po6_r31, po7_r31⟩
            have hFm30 : zFr W_0 m0 m30 := hFm3.trans gm30 rfl
            have km30_1_0 : m30 1 0 = f27 := (gm30 1 0 rfl).trans ef27
            show zW E (d) 0 244 [(6, 0), (2, 0), (2, 69), (0, i2)] [(0, r31)] m30 Q
            refine zw_115 zr_0_244 rfl ?_
            refine zw_7 zr_0_245 rfl ?_
            refine zw_7s zr_0_246 rfl ?_
            refine zw_3 zr_0_247 rfl ?_
            refine zw_push zr_0_248 ?_
            refine zw_16 zr_0_249 (by omega) ?_
            refine zw_100k zr_0_250 rfl (by omega) (by omega) ex21.symm ?_
            refine zw_7s zr_0_251 rfl ?_
            refine zw_3 zr_0_252 rfl ?_
            refine zw_push zr_0_253 ?_
            refine zw_16 zr_0_254 (by omega) ?_
            refine zw_100k zr_0_255 rfl (by omega) (by omega) ex22.symm ?_
            refine zw_7s zr_0_256 rfl ?_
            refine zw_3 zr_0_257 rfl ?_
            refine zw_push zr_0_258 ?_
            refine zw_16 zr_0_259 (by omega) ?_
            refine zw_100k zr_0_260 rfl (by omega) (by omega) ex23.symm ?_
            refine zw_7s zr_0_261 rfl ?_
            refine zw_3 zr_0_262 rfl ?_
            refine zw_push zr_0_263 ?_
            refine zw_16 zr_0_264 (by omega) ?_
            refine zw_100k zr_0_265 rfl (by omega) (by omega) ex24.symm ?_
            refine zw_7s zr_0_266 rfl ?_
            refine zw_3 zr_0_267 rfl ?_
            refine zw_push zr_0_268 ?_
            refine zw_16 zr_0_269 (by omega) ?_
            refine zw_100k zr_0_270 rfl (by omega) (by omega) ex25.symm ?_
            refine zw_40_1 zr_0_271 ?_ ?_
            · intro h32
              refine zw_push zr_0_278 ?_
              obtain ⟨f33, ef33⟩ : ∃ v, m30 70 822 = v := ⟨_, rfl⟩
              have bf33 : 0 ≤ m30 70 822 ∧ m30 70 822 ≤ 10 := ib_70_players hIm30 (by omega)
              rw [ef33] at bf33
              obtain ⟨f34, ef34⟩ : ∃ v, m30 70 823 = v := ⟨_, rfl⟩
              have bf34 : 0 ≤ m30 70 823 ∧ m30 70 823 ≤ 60 := ib_70_meetings hIm30 (by omega)
              rw [ef34] at bf34
              refine zw_C zr_0_279 (Or.inl rfl) zm_146 rfl rfl ⟨Nat.le_of_ble_eq_true rfl, Nat.le_of_ble_eq_true rfl, Nat.le_of_ble_eq_true rfl, rfl, by decide⟩ (by omega) (th_146 (d := d - 1) (by omega) hIm30 (a0 := x21) (a1 := x22) (a2 := x23) (a3 := x24) (a4 := 0) (g0 := f33) (g1 := f34)  (F70 := m30 70) ef33 ef34 rfl (by omega) (by omega) (by omega) (by omega) (by omega) ) ?_
              rintro _ m35 ⟨r36, rfl, hr36a, hr36b, hIm35, gm35, po0_r36, po1_r36⟩
              have hFm35 : zFr W_0 m0 m35 := hFm30.trans gm35 rfl
              have km35_1_0 : m35 1 0 = f27 := (gm35 1 0 rfl).trans km30_1_0
              show zW E (d) 0 282 [(6, 0), (2, 0), (2, 69), (0, i2)] [(0, r36)] m35 Q
              obtain ⟨hkz37, hrz37⟩ := zk_meeting hIm3 hv0lp18_4 gm30 ef27 ef28 ef29 po0_r31 po1_r31 po2_r31 po3_r31 po4_r31 po5_r31 po6_r31 po7_r31 gm35 ef33 ef34 po0_r36 po1_r36
              refine zw_115 zr_0_282 rfl ?_
              refine zw_42 zr_0_283 ?_
              refine zw_15 (c := 6) (L' := [(6, 0), (2, 0), (2, 69), (0, (i2 + 6))]) zr_0_1238 rfl (by decide) (by omega) rfl ?_
              refine zw_42 zr_0_1241 ?_
              exact zw_less (L := [(6, 0), (2, 0), (2, 69), (0, (i2 + 6))]) ⟨Or.inr rfl, Or.inr rfl, Or.inr rfl, Or.inr rfl, trivial⟩ (ihlp18_4 ((i2 + 6)) m35 hIm35 hFm35   (by omega) (by omega) (by assumption) (by omega))
            · intro h39; omega
          · intro h40
            refine zw_push zr_0_236 ?_
            refine zw_42 zr_0_237 ?_
            obtain ⟨f41, ef41⟩ : ∃ v, m3 1 0 = v := ⟨_, rfl⟩
            have bf41 := ib_1_0 hIm3
            rw [ef41] at bf41
            obtain ⟨f42, ef42⟩ : ∃ v, m3 1 1 = v := ⟨_, rfl⟩
            have bf42 := ib_1_1 hIm3
            rw [ef42] at bf42
            obtain ⟨f43, ef43⟩ : ∃ v, m3 1 2 = v := ⟨_, rfl⟩
            have bf43 := ib_1_2 hIm3
            rw [ef43] at bf43
            refine zw_C zr_0_241 (Or.inl rfl) zm_102 rfl rfl ⟨Nat.le_of_ble_eq_true rfl, Nat.le_of_ble_eq_true rfl, Nat.le_of_ble_eq_true rfl, rfl, by decide⟩ (by omega) (th_102 (d := d - 1) (by omega) hIm3 (a0 := x21) (a1 := x22) (a2 := x23) (a3 := x24) (a4 := 1) (g0 := f41) (g1 := f42) (g2 := f43)  (F5 := m3 5) (F6 := m3 6) (F7 := m3 7) (F8 := m3 8) ef41 ef42 ef43 rfl rfl rfl rfl (by omega) (by omega) (by omega) (by omega) (by omega) ) ?_
            rintro _ m44 ⟨r45, rfl, hr45a, hr45b, hIm44, gm44, po0_r45, po1_r45, po2_r45, po3_r45, po4_r45, po5_r45, po6_r45, po7_r45⟩
            have hFm44 : zFr W_0 m0 m44 := hFm3.trans gm44 rfl
            have km44_1_0 : m44 1 0 = f41 := (gm44 1 0 rfl).trans ef41
            show zW E (d) 0 244 [(6, 0), (2, 0), (2, 69), (0, i2)] [(0, r45)] m44 Q
            refine zw_115 zr_0_244 rfl ?_
            refine zw_7 zr_0_245 rfl ?_
            refine zw_7s zr_0_246 rfl ?_
            refine zw_3 zr_0_247 rfl ?_
            refine zw_push zr_0_248 ?_
            refine zw_16 zr_0_249 (by omega) ?_
            refine zw_100k zr_0_250 rfl (by omega) (by omega) ex21.symm ?_
            refine zw_7s zr_0_251 rfl ?_
            refine zw_3 zr_0_252 rfl ?_
            refine zw_push zr_0_253 ?_
            refine zw_16 zr_0_254 (by omega) ?_
            refine zw_100k zr_0_255 rfl (by omega) (by omega) ex22.symm ?_
            refine zw_7s zr_0_256 rfl ?_
            refine zw_3 zr_0_257 rfl ?_
            refine zw_push zr_0_258 ?_
            refine zw_16 zr_0_259 (by omega) ?_
            refine zw_100k zr_0_260 rfl (by omega) (by omega) ex23.symm ?_
            refine zw_7s zr_0_261 rfl ?_
            refine zw_3 zr_0_262 rfl ?_
            refine zw_push zr_0_263 ?_
            refine zw_16 zr_0_264 (by omega) ?_
            refine zw_100k zr_0_265 rfl (by omega) (by omega) ex24.symm ?_
            refine zw_7s zr_0_266 rfl ?_
            refine zw_3 zr_0_267 rfl ?_
            refine zw_push zr_0_268 ?_
            refine zw_16 zr_0_269 (by omega) ?_
            refine zw_100k zr_0_270 rfl (by omega) (by omega) ex25.symm ?_
            refine zw_40_1 zr_0_271 ?_ ?_
            · intro h46; omega
            · intro h47
              refine zw_push zr_0_274 ?_
              refine zw_42 zr_0_275 ?_
              obtain ⟨f48, ef48⟩ : ∃ v, m44 70 822 = v := ⟨_, rfl⟩
              have bf48 : 0 ≤ m44 70 822 ∧ m44 70 822 ≤ 10 := ib_70_players hIm44 (by omega)
              rw [ef48] at bf48
              obtain ⟨f49, ef49⟩ : ∃ v, m44 70 823 = v := ⟨_, rfl⟩
              have bf49 : 0 ≤ m44 70 823 ∧ m44 70 823 ≤ 60 := ib_70_meetings hIm44 (by omega)
              rw [ef49] at bf49
              refine zw_C zr_0_279 (Or.inl rfl) zm_146 rfl rfl ⟨Nat.le_of_ble_eq_true rfl, Nat.le_of_ble_eq_true rfl, Nat.le_of_ble_eq_true rfl, rfl, by decide⟩ (by omega) (th_146 (d := d - 1) (by omega) hIm44 (a0 := x21) (a1 := x22) (a2 := x23) (a3 := x24) (a4 := 1) (g0 := f48) (g1 := f49)  (F70 := m44 70) ef48 ef49 rfl (by omega) (by omega) (by omega) (by omega) (by omega) ) ?_
              rintro _ m50 ⟨r51, rfl, hr51a, hr51b, hIm50, gm50, po0_r51, po1_r51⟩
              have hFm50 : zFr W_0 m0 m50 := hFm44.trans gm50 rfl
              have km50_1_0 : m50 1 0 = f41 := (gm50 1 0 rfl).trans km44_1_0
              show zW E (d) 0 282 [(6, 0), (2, 0), (2, 69), (0, i2)] [(0, r51)] m50 Q
              obtain ⟨hkz52, hrz52⟩ := zk_meeting hIm3 hv0lp18_4 gm44 ef41 ef42 ef43 po0_r45 po1_r45 po2_r45 po3_r45 po4_r45 po5_r45 po6_r45 po7_r45 gm50 ef48 ef49 po0_r51 po1_r51
              refine zw_115 zr_0_282 rfl ?_
              refine zw_42 zr_0_283 ?_
              refine zw_15 (c := 6) (L' := [(6, 0), (2, 0), (2, 69), (0, (i2 + 6))]) zr_0_1238 rfl (by decide) (by omega) rfl ?_
              refine zw_42 zr_0_1241 ?_
              exact zw_less (L := [(6, 0), (2, 0), (2, 69), (0, (i2 + 6))]) ⟨Or.inr rfl, Or.inr rfl, Or.inr rfl, Or.inr rfl, trivial⟩ (ihlp18_4 ((i2 + 6)) m50 hIm50 hFm50   (by omega) (by omega) (by assumption) (by omega))
        by_cases h54 : x9 = 2
        · refine zw_111 (t := 286) zr_0_33 (by rw [h54]; rfl) ?_
          refine zw_7 zr_0_286 rfl ?_
          refine zw_7s zr_0_287 rfl ?_
          refine zw_3 zr_0_288 rfl ?_
          refine zw_push zr_0_289 ?_
          refine zw_16 zr_0_290 (by omega) ?_
          refine zw_100 zr_0_291 rfl (by omega) (by omega) ?_
          intro x55 ex55 hx55a hx55b
          refine zw_7s zr_0_292 rfl ?_
          refine zw_3 zr_0_293 rfl ?_
          refine zw_push zr_0_294 ?_
          refine zw_16 zr_0_295 (by omega) ?_
          refine zw_100 zr_0_296 rfl (by omega) (by omega) ?_
          intro x56 ex56 hx56a hx56b
          refine zw_7s zr_0_297 rfl ?_
          refine zw_3 zr_0_298 rfl ?_
          refine zw_push zr_0_299 ?_
          refine zw_16 zr_0_300 (by omega) ?_
          refine zw_100 zr_0_301 rfl (by omega) (by omega) ?_
          intro x57 ex57 hx57a hx57b
          refine zw_40_1 zr_0_302 ?_ ?_
          · intro h58
            refine zw_push zr_0_309 ?_
            obtain ⟨f59, ef59⟩ : ∃ v, m3 1 1 = v := ⟨_, rfl⟩
            have bf59 := ib_1_1 hIm3
            rw [ef59] at bf59
            obtain ⟨f60, ef60⟩ : ∃ v, m3 1 2 = v := ⟨_, rfl⟩
            have bf60 := ib_1_2 hIm3
            rw [ef60] at bf60
            obtain ⟨f61, ef61⟩ : ∃ v, m3 1 3 = v := ⟨_, rfl⟩
            have bf61 := ib_1_3 hIm3
            rw [ef61] at bf61
            refine zw_C zr_0_310 (Or.inl rfl) zm_103 rfl rfl ⟨Nat.le_of_ble_eq_true rfl, Nat.le_of_ble_eq_true rfl, Nat.le_of_ble_eq_true rfl, rfl, by decide⟩ (by omega) (th_103 (d := d - 1) (by omega) hIm3 (a0 := x55) (a1 := x56) (a2 := 0) (g0 := f59) (g1 := f60) (g2 := f61)   ef59 ef60 ef61  (by omega) (by omega) (by omega) ) ?_
            rintro _ m62 ⟨r63, rfl, hr63a, hr63b, hIm62, gm62, po0_r63, po1_r63, po2_r63⟩
            have hFm62 : zFr W_0 m0 m62 := hFm3.trans gm62 rfl
            have km62_1_1 : m62 1 1 = f59 := (gm62 1 1 rfl).trans ef59
            show zW E (d) 0 313 [(6, 0), (2, 0), (2, 69), (0, i2)] [(0, r63)] m62 Q
            refine zw_115 zr_0_313 rfl ?_
            refine zw_7 zr_0_314 rfl ?_
            refine zw_7s zr_0_315 rfl ?_
            refine zw_3 zr_0_316 rfl ?_
            refine zw_push zr_0_317 ?_
            refine zw_16 zr_0_318 (by omega) ?_
            refine zw_100k zr_0_319 rfl (by omega) (by omega) ex55.symm ?_
            refine zw_7s zr_0_320 rfl ?_
            refine zw_3 zr_0_321 rfl ?_
            refine zw_push zr_0_322 ?_
            refine zw_16 zr_0_323 (by omega) ?_
            refine zw_100k zr_0_324 rfl (by omega) (by omega) ex56.symm ?_
            refine zw_7s zr_0_325 rfl ?_
            refine zw_3 zr_0_326 rfl ?_
            refine zw_push zr_0_327 ?_
            refine zw_16 zr_0_328 (by omega) ?_
            refine zw_100k zr_0_329 rfl (by omega) (by omega) ex57.symm ?_
            refine zw_40_1 zr_0_330 ?_ ?_
            · intro h64
              refine zw_push zr_0_337 ?_
              obtain ⟨f65, ef65⟩ : ∃ v, m62 70 823 = v := ⟨_, rfl⟩
              have bf65 : 0 ≤ m62 70 823 ∧ m62 70 823 ≤ 60 := ib_70_meetings hIm62 (by omega)
              rw [ef65] at bf65
              refine zw_C zr_0_338 (Or.inl rfl) zm_147 rfl rfl ⟨Nat.le_of_ble_eq_true rfl, Nat.le_of_ble_eq_true rfl, Nat.le_of_ble_eq_true rfl, rfl, by decide⟩ (by omega) (th_147 (d := d - 1) (by omega) hIm62 (a0 := x55) (a1 := x56) (a2 := 0) (g0 := f65)  (F70 := m62 70) ef65 rfl (by omega) (by omega) (by omega) ) ?_
              rintro _ m66 ⟨r67, rfl, hr67a, hr67b, hIm66, gm66, po0_r67, po1_r67⟩
              have hFm66 : zFr W_0 m0 m66 := hFm62.trans gm66 rfl
              have km66_1_1 : m66 1 1 = f59 := (gm66 1 1 rfl).trans km62_1_1
              show zW E (d) 0 341 [(6, 0), (2, 0), (2, 69), (0, i2)] [(0, r67)] m66 Q
              obtain ⟨hkz68, hrz68⟩ := zk_mark hIm3 hv0lp18_4 gm62 ef59 ef60 ef61 po0_r63 po1_r63 po2_r63 gm66 ef65 po0_r67 po1_r67
              refine zw_115 zr_0_341 rfl ?_
              refine zw_42 zr_0_342 ?_
              refine zw_15 (c := 6) (L' := [(6, 0), (2, 0), (2, 69), (0, (i2 + 6))]) zr_0_1238 rfl (by decide) (by omega) rfl ?_
              refine zw_42 zr_0_1241 ?_
              exact zw_less (L := [(6, 0), (2, 0), (2, 69), (0, (i2 + 6))]) ⟨Or.inr rfl, Or.inr rfl, Or.inr rfl, Or.inr rfl, trivial⟩ (ihlp18_4 ((i2 + 6)) m66 hIm66 hFm66   (by omega) (by omega) (by assumption) (by omega))
            · intro h70; omega
          · intro h71
            refine zw_push zr_0_305 ?_
            refine zw_42 zr_0_306 ?_
            obtain ⟨f72, ef72⟩ : ∃ v, m3 1 1 = v := ⟨_, rfl⟩
            have bf72 := ib_1_1 hIm3
            rw [ef72] at bf72
            obtain ⟨f73, ef73⟩ : ∃ v, m3 1 2 = v := ⟨_, rfl⟩
            have bf73 := ib_1_2 hIm3
            rw [ef73] at bf73
            obtain ⟨f74, ef74⟩ : ∃ v, m3 1 3 = v := ⟨_, rfl⟩
            have bf74 := ib_1_3 hIm3
            rw [ef74] at bf74
            refine zw_C zr_0_310 (Or.inl rfl) zm_103 rfl rfl ⟨Nat.le_of_ble_eq_true rfl, Nat.le_of_ble_eq_true rfl, Nat.le_of_ble_eq_true rfl, rfl, by decide⟩ (by omega) (th_103 (d := d - 1) (by omega) hIm3 (a0 := x55) (a1 := x56) (a2 := 1) (g0 := f72) (g1 := f73) (g2 := f74)   ef72 ef73 ef74  (by omega) (by omega) (by omega) ) ?_
            rintro _ m75 ⟨r76, rfl, hr76a, hr76b, hIm75, gm75, po0_r76, po1_r76, po2_r76⟩
            have hFm75 : zFr W_0 m0 m75 := hFm3.trans gm75 rfl
            have km75_1_1 : m75 1 1 = f72 := (gm75 1 1 rfl).trans ef72
            show zW E (d) 0 313 [(6, 0), (2, 0), (2, 69), (0, i2)] [(0, r76)] m75 Q
            refine zw_115 zr_0_313 rfl ?_
            refine zw_7 zr_0_314 rfl ?_
            refine zw_7s zr_0_315 rfl ?_
            refine zw_3 zr_0_316 rfl ?_
            refine zw_push zr_0_317 ?_
            refine zw_16 zr_0_318 (by omega) ?_
            refine zw_100k zr_0_319 rfl (by omega) (by omega) ex55.symm ?_
            refine zw_7s zr_0_320 rfl ?_
            refine zw_3 zr_0_321 rfl ?_
            refine zw_push zr_0_322 ?_
            refine zw_16 zr_0_323 (by omega) ?_
            refine zw_100k zr_0_324 rfl (by omega) (by omega) ex56.symm ?_
            refine zw_7s zr_0_325 rfl ?_
            refine zw_3 zr_0_326 rfl ?_
            refine zw_push zr_0_327 ?_
            refine zw_16 zr_0_328 (by omega) ?_
            refine zw_100k zr_0_329 rfl (by omega) (by omega) ex57.symm ?_
            refine zw_40_1 zr_0_330 ?_ ?_
            · intro h77; omega
            · intro h78
              refine zw_push zr_0_333 ?_
              refine zw_42 zr_0_334 ?_
              obtain ⟨f79, ef79⟩ : ∃ v, m75 70 823 = v := ⟨_, rfl⟩
              have bf79 : 0 ≤ m75 70 823 ∧ m75 70 823 ≤ 60 := ib_70_meetings hIm75 (by omega)
              rw [ef79] at bf79
              refine zw_C zr_0_338 (Or.inl rfl) zm_147 rfl rfl ⟨Nat.le_of_ble_eq_true rfl, Nat.le_of_ble_eq_true rfl, Nat.le_of_ble_eq_true rfl, rfl, by decide⟩ (by omega) (th_147 (d := d - 1) (by omega) hIm75 (a0 := x55) (a1 := x56) (a2 := 1) (g0 := f79)  (F70 := m75 70) ef79 rfl (by omega) (by omega) (by omega) ) ?_
              rintro _ m80 ⟨r81, rfl, hr81a, hr81b, hIm80, gm80, po0_r81, po1_r81⟩
              have hFm80 : zFr W_0 m0 m80 := hFm75.trans gm80 rfl
              have km80_1_1 : m80 1 1 = f72 := (gm80 1 1 rfl).trans km75_1_1
              show zW E (d) 0 341 [(6, 0), (2, 0), (2, 69), (0, i2)] [(0, r81)] m80 Q
              obtain ⟨hkz82, hrz82⟩ := zk_mark hIm3 hv0lp18_4 gm75 ef72 ef73 ef74 po0_r76 po1_r76 po2_r76 gm80 ef79 po0_r81 po1_r81
              refine zw_115 zr_0_341 rfl ?_
              refine zw_42 zr_0_342 ?_
              refine zw_15 (c := 6) (L' := [(6, 0), (2, 0), (2, 69), (0, (i2 + 6))]) zr_0_1238 rfl (by decide) (by omega) rfl ?_
              refine zw_42 zr_0_1241 ?_
              exact zw_less (L := [(6, 0), (2, 0), (2, 69), (0, (i2 + 6))]) ⟨Or.inr rfl, Or.inr rfl, Or.inr rfl, Or.inr rfl, trivial⟩ (ihlp18_4 ((i2 + 6)) m80 hIm80 hFm80   (by omega) (by omega) (by assumption) (by omega))
        by_cases h84 : x9 = 3
        · refine zw_111 (t := 345) zr_0_33 (by rw [h84]; rfl) ?_
          refine zw_7 zr_0_345 rfl ?_
          refine zw_7s zr_0_346 rfl ?_
          refine zw_3 zr_0_347 rfl ?_
          refine zw_push zr_0_348 ?_
          refine zw_16 zr_0_349 (by omega) ?_
          refine zw_100 zr_0_350 rfl (by omega) (by omega) ?_
          intro x85 ex85 hx85a hx85b
          refine zw_7s zr_0_351 rfl ?_
          refine zw_3 zr_0_352 rfl ?_
          refine zw_push zr_0_353 ?_
          refine zw_16 zr_0_354 (by omega) ?_
          refine zw_100 zr_0_355 rfl (by omega) (by omega) ?_
          intro x86 ex86 hx86a hx86b
          refine zw_C zr_0_356 (Or.inl rfl) zm_105 rfl rfl ⟨Nat.le_of_ble_eq_true rfl, Nat.le_of_ble_eq_true rfl, Nat.le_of_ble_eq_true rfl, rfl, by decide⟩ (by omega) (th_105 (d := d - 1) (by omega) hIm3 (a0 := x85) (a1 := x86)   (F9 := m3 9)  rfl (by omega) (by omega) ) ?_
          rintro _ m87 ⟨r88, rfl, hr88a, hr88b, hIm87, gm87, po0_r88, po1_r88⟩
          have hFm87 : zFr W_0 m0 m87 := hFm3.trans gm87 rfl
          show zW E (d) 0 359 [(6, 0), (2, 0), (2, 69), (0, i2)] [(0, r88)] m87 Q
          refine zw_115 zr_0_359 rfl ?_
          refine zw_7 zr_0_360 rfl ?_
          refine zw_7s zr_0_361 rfl ?_
          refine zw_3 zr_0_362 rfl ?_
          refine zw_push zr_0_363 ?_
          refine zw_16 zr_0_364 (by omega) ?_
          refine zw_100k zr_0_365 rfl (by omega) (by omega) ex85.symm ?_
          refine zw_7s zr_0_366 rfl ?_
          refine zw_3 zr_0_367 rfl ?_
          refine zw_push zr_0_368 ?_
          refine zw_16 zr_0_369 (by omega) ?_
          refine zw_100k zr_0_370 rfl (by omega) (by omega) ex86.symm ?_
          refine zw_C zr_0_371 (Or.inl rfl) zm_149 rfl rfl ⟨Nat.le_of_ble_eq_true rfl, Nat.le_of_ble_eq_true rfl, Nat.le_of_ble_eq_true rfl, rfl, by decide⟩ (by omega) (th_149 (d := d - 1) (by omega) hIm87 (a0 := x85) (a1 := x86)   (F70 := m87 70)  rfl (by omega) (by omega) ) ?_
          rintro _ m89 ⟨r90, rfl, hr90a, hr90b, hIm89, gm89, po0_r90, po1_r90⟩
          have hFm89 : zFr W_0 m0 m89 := hFm87.trans gm89 rfl
          show zW E (d) 0 374 [(6, 0), (2, 0), (2, 69), (0, i2)] [(0, r90)] m89 Q
          obtain ⟨hkz91, hrz91⟩ := zk_first hIm3 hv0lp18_4 gm87 po0_r88 po1_r88 gm89 po0_r90 po1_r90
          refine zw_115 zr_0_374 rfl ?_
          refine zw_42 zr_0_375 ?_
          refine zw_15 (c := 6) (L' := [(6, 0), (2, 0), (2, 69), (0, (i2 + 6))]) zr_0_1238 rfl (by decide) (by omega) rfl ?_
          refine zw_42 zr_0_1241 ?_
          exact zw_less (L := [(6, 0), (2, 0), (2, 69), (0, (i2 + 6))]) ⟨Or.inr rfl, Or.inr rfl, Or.inr rfl, Or.inr rfl, trivial⟩ (ihlp18_4 ((i2 + 6)) m89 hIm89 hFm89   (by omega) (by omega) (by assumption) (by omega))
        by_cases h93 : x9 = 4
        · refine zw_111 (t := 378) zr_0_33 (by rw [h93]; rfl) ?_
          refine zw_7 zr_0_378 rfl ?_
          refine zw_7s zr_0_379 rfl ?_
          refine zw_3 zr_0_380 rfl ?_
          refine zw_push zr_0_381 ?_
          refine zw_16 zr_0_382 (by omega) ?_
          refine zw_100 zr_0_383 rfl (by omega) (by omega) ?_
          intro x94 ex94 hx94a hx94b
          refine zw_7s zr_0_384 rfl ?_
          refine zw_3 zr_0_385 rfl ?_
          refine zw_push zr_0_386 ?_
          refine zw_16 zr_0_387 (by omega) ?_
          refine zw_100 zr_0_388 rfl (by omega) (by omega) ?_
          intro x95 ex95 hx95a hx95b
          refine zw_C zr_0_389 (Or.inl rfl) zm_106 rfl rfl ⟨Nat.le_of_ble_eq_true rfl, Nat.le_of_ble_eq_true rfl, Nat.le_of_ble_eq_true rfl, rfl, by decide⟩ (by omega) (th_106 (d := d - 1) (by omega) hIm3 (a0 := x94) (a1 := x95)   (F10 := m3 10) (F11 := m3 11)  rfl rfl (by omega) (by omega) ) ?_
          rintro _ m96 ⟨r97, rfl, hr97a, hr97b, hIm96, gm96, po0_r97, po1_r97, po2_r97⟩
          have hFm96 : zFr W_0 m0 m96 := hFm3.trans gm96 rfl
          show zW E (d) 0 392 [(6, 0), (2, 0), (2, 69), (0, i2)] [(0, r97)] m96 Q
          refine zw_115 zr_0_392 rfl ?_
          refine zw_7 zr_0_393 rfl ?_
          refine zw_7s zr_0_394 rfl ?_
          refine zw_3 zr_0_395 rfl ?_
          refine zw_push zr_0_396 ?_
          refine zw_16 zr_0_397 (by omega) ?_
          refine zw_100k zr_0_398 rfl (by omega) (by omega) ex94.symm ?_
          refine zw_7s zr_0_399 rfl ?_
          refine zw_3 zr_0_400 rfl ?_
          refine zw_push zr_0_401 ?_
          refine zw_16 zr_0_402 (by omega) ?_
          refine zw_100k zr_0_403 rfl (by omega) (by omega) ex95.symm ?_
          refine zw_C zr_0_404 (Or.inl rfl) zm_150 rfl rfl ⟨Nat.le_of_ble_eq_true rfl, Nat.le_of_ble_eq_true rfl, Nat.le_of_ble_eq_true rfl, rfl, by decide⟩ (by omega) (th_150 (d := d - 1) (by omega) hIm96 (a0 := x94) (a1 := x95)   (F70 := m96 70)  rfl (by omega) (by omega) ) ?_
          rintro _ m98 ⟨r99, rfl, hr99a, hr99b, hIm98, gm98, po0_r99, po1_r99⟩
          have hFm98 : zFr W_0 m0 m98 := hFm96.trans gm98 rfl
          show zW E (d) 0 407 [(6, 0), (2, 0), (2, 69), (0, i2)] [(0, r99)] m98 Q
          obtain ⟨hkz100, hrz100⟩ := zk_write hIm3 hv0lp18_4 gm96 po0_r97 po1_r97 po2_r97 gm98 po0_r99 po1_r99
          refine zw_115 zr_0_407 rfl ?_
          refine zw_42 zr_0_408 ?_
          refine zw_15 (c := 6) (L' := [(6, 0), (2, 0), (2, 69), (0, (i2 + 6))]) zr_0_1238 rfl (by decide) (by omega) rfl ?_
          refine zw_42 zr_0_1241 ?_
          exact zw_less (L := [(6, 0), (2, 0), (2, 69), (0, (i2 + 6))]) ⟨Or.inr rfl, Or.inr rfl, Or.inr rfl, Or.inr rfl, trivial⟩ (ihlp18_4 ((i2 + 6)) m98 hIm98 hFm98   (by omega) (by omega) (by assumption) (by omega))
        by_cases h102 : x9 = 5
        · refine zw_111 (t := 411) zr_0_33 (by rw [h102]; rfl) ?_
          refine zw_7 zr_0_411 rfl ?_
          refine zw_7s zr_0_412 rfl ?_
          refine zw_3 zr_0_413 rfl ?_
          refine zw_push zr_0_414 ?_
          refine zw_16 zr_0_415 (by omega) ?_
          refine zw_100 zr_0_416 rfl (by omega) (by omega) ?_
          intro x103 ex103 hx103a hx103b
          refine zw_C zr_0_417 (Or.inl rfl) zm_107 rfl rfl ⟨Nat.le_of_ble_eq_true rfl, Nat.le_of_ble_eq_true rfl, Nat.le_of_ble_eq_true rfl, rfl, by decide⟩ (by omega) (th_107 (d := d - 1) (by omega) hIm3 (a0 := x103)   (F10 := m3 10)  rfl (by omega) ) ?_
          rintro _ m104 ⟨r105, rfl, hr105a, hr105b, hIm104, gm104, po0_r105, po1_r105⟩
          have hFm104 : zFr W_0 m0 m104 := hFm3.trans gm104 rfl
          show zW E (d) 0 420 [(6, 0), (2, 0), (2, 69), (0, i2)] [(0, r105)] m104 Q
          refine zw_115 zr_0_420 rfl ?_
          refine zw_7 zr_0_421 rfl ?_
          refine zw_7s zr_0_422 rfl ?_
          refine zw_3 zr_0_423 rfl ?_
          refine zw_push zr_0_424 ?_
          refine zw_16 zr_0_425 (by omega) ?_
          refine zw_100k zr_0_426 rfl (by omega) (by omega) ex103.symm ?_
          refine zw_C zr_0_427 (Or.inl rfl) zm_151 rfl rfl ⟨Nat.le_of_ble_eq_true rfl, Nat.le_of_ble_eq_true rfl, Nat.le_of_ble_eq_true rfl, rfl, by decide⟩ (by omega) (th_151 (d := d - 1) (by omega) hIm104 (a0 := x103)   (F70 := m104 70)  rfl (by omega) ) ?_
          rintro _ m106 ⟨r107, rfl, hr107a, hr107b, hIm106, gm106, po0_r107, po1_r107⟩
          have hFm106 : zFr W_0 m0 m106 := hFm104.trans gm106 rfl
          show zW E (d) 0 430 [(6, 0), (2, 0), (2, 69), (0, i2)] [(0, r107)] m106 Q
          obtain ⟨hkz108, hrz108⟩ := zk_erase hIm3 hv0lp18_4 gm104 po0_r105 po1_r105 gm106 po0_r107 po1_r107
          refine zw_115 zr_0_430 rfl ?_
          refine zw_42 zr_0_431 ?_
          refine zw_15 (c := 6) (L' := [(6, 0), (2, 0), (2, 69), (0, (i2 + 6))]) zr_0_1238 rfl (by decide) (by omega) rfl ?_
          refine zw_42 zr_0_1241 ?_
          exact zw_less (L := [(6, 0), (2, 0), (2, 69), (0, (i2 + 6))]) ⟨Or.inr rfl, Or.inr rfl, Or.inr rfl, Or.inr rfl, trivial⟩ (ihlp18_4 ((i2 + 6)) m106 hIm106 hFm106   (by omega) (by omega) (by assumption) (by omega))
        by_cases h110 : x9 = 6
        · refine zw_111 (t := 434) zr_0_33 (by rw [h110]; rfl) ?_
          refine zw_7 zr_0_434 rfl ?_
          refine zw_7s zr_0_435 rfl ?_
          refine zw_3 zr_0_436 rfl ?_
          refine zw_push zr_0_437 ?_
          refine zw_16 zr_0_438 (by omega) ?_
          refine zw_100 zr_0_439 rfl (by omega) (by omega) ?_
          intro x111 ex111 hx111a hx111b
          refine zw_C zr_0_440 (Or.inl rfl) zm_108 rfl rfl ⟨Nat.le_of_ble_eq_true rfl, Nat.le_of_ble_eq_true rfl, Nat.le_of_ble_eq_true rfl, rfl, by decide⟩ (by omega) (th_108 (d := d - 1) (by omega) hIm3 (a0 := x111)   (F10 := m3 10) (F11 := m3 11)  rfl rfl (by omega) ) ?_
          rintro _ m112 ⟨r113, rfl, hr113a, hr113b, hIm112, gm112, po0_r113⟩
          have hFm112 : zFr W_0 m0 m112 := hFm3.trans gm112 rfl
          show zW E (d) 0 443 [(6, 0), (2, 0), (2, 69), (0, i2)] [(0, r113)] m112 Q
          refine zw_115 zr_0_443 rfl ?_
          refine zw_7 zr_0_444 rfl ?_
          refine zw_7s zr_0_445 rfl ?_
          refine zw_3 zr_0_446 rfl ?_
          refine zw_push zr_0_447 ?_
          refine zw_16 zr_0_448 (by omega) ?_
          refine zw_100k zr_0_449 rfl (by omega) (by omega) ex111.symm ?_
          refine zw_C zr_0_450 (Or.inl rfl) zm_163 rfl rfl ⟨Nat.le_of_ble_eq_true rfl, Nat.le_of_ble_eq_true rfl, Nat.le_of_ble_eq_true rfl, rfl, by decide⟩ (by omega) (th_163 (d := d - 1) (by omega) hIm112 (a0 := x111)   (F70 := m112 70)  rfl (by omega) ) ?_
          rintro _ m114 ⟨r115, rfl, hr115a, hr115b, hIm114, gm114, po0_r115⟩
          have hFm114 : zFr W_0 m0 m114 := hFm112.trans gm114 rfl
          show zW E (d) 0 453 [(6, 0), (2, 0), (2, 69), (0, i2)] [(0, r115)] m114 Q
          have hkz116_0 := zk_fr hv0lp18_4 gm112
          have hkz116_1 := zk_fr hkz116_0 gm114
          have hqz117 := zq_fault hIm3 hv0lp18_4 gm112 po0_r113 po0_r115
          clear po0_r113 po0_r115
          refine zw_115 zr_0_453 rfl ?_
          refine zw_42 zr_0_454 ?_
          refine zw_15 (c := 6) (L' := [(6, 0), (2, 0), (2, 69), (0, (i2 + 6))]) zr_0_1238 rfl (by decide) (by omega) rfl ?_
          refine zw_42 zr_0_1241 ?_
          exact zw_less (L := [(6, 0), (2, 0), (2, 69), (0, (i2 + 6))]) ⟨Or.inr rfl, Or.inr rfl, Or.inr rfl, Or.inr rfl, trivial⟩ (ihlp18_4 ((i2 + 6)) m114 hIm114 hFm114   (by omega) (by omega) (by assumption) (by omega))
        by_cases h119 : x9 = 7
        · refine zw_111 (t := 457) zr_0_33 (by rw [h119]; rfl) ?_
          refine zw_7 zr_0_457 rfl ?_
          refine zw_7s zr_0_458 rfl ?_
          refine zw_3 zr_0_459 rfl ?_
          refine zw_push zr_0_460 ?_
          refine zw_16 zr_0_461 (by omega) ?_
          refine zw_100 zr_0_462 rfl (by omega) (by omega) ?_
          intro x120 ex120 hx120a hx120b
          refine zw_7s zr_0_463 rfl ?_
          refine zw_3 zr_0_464 rfl ?_
          refine zw_push zr_0_465 ?_
          refine zw_16 zr_0_466 (by omega) ?_
          refine zw_100 zr_0_467 rfl (by omega) (by omega) ?_
          intro x121 ex121 hx121a hx121b
          refine zw_7s zr_0_468 rfl ?_
          refine zw_3 zr_0_469 rfl ?_
          refine zw_push zr_0_470 ?_
          refine zw_16 zr_0_471 (by omega) ?_
          refine zw_100 zr_0_472 rfl (by omega) (by omega) ?_
          intro x122 ex122 hx122a hx122b
          obtain ⟨f123, ef123⟩ : ∃ v, m3 1 0 = v := ⟨_, rfl⟩
          have bf123 := ib_1_0 hIm3
          rw [ef123] at bf123
          obtain ⟨f124, ef124⟩ : ∃ v, m3 1 1 = v := ⟨_, rfl⟩
          have bf124 := ib_1_1 hIm3
          rw [ef124] at bf124
          obtain ⟨f125, ef125⟩ : ∃ v, m3 1 2 = v := ⟨_, rfl⟩
          have bf125 := ib_1_2 hIm3
          rw [ef125] at bf125
          refine zw_C zr_0_473 (Or.inl rfl) zm_109 rfl rfl ⟨Nat.le_of_ble_eq_true rfl, Nat.le_of_ble_eq_true rfl, Nat.le_of_ble_eq_true rfl, rfl, by decide⟩ (by omega) (th_109 (d := d - 1) (by omega) hIm3 (a0 := x120) (a1 := x121) (a2 := x122) (g0 := f123) (g1 := f124) (g2 := f125)  (F5 := m3 5) (F6 := m3 6) (F7 := m3 7) (F8 := m3 8) (F10 := m3 10) (F11 := m3 11) (F44 := m3 44) (F48 := m3 48) (F50 := m3 50) (F51 := m3 51) (F9 := m3 9) ef123 ef124 ef125 rfl rfl rfl rfl rfl rfl rfl rfl rfl rfl rfl (by omega) (by omega) (by omega) ) ?_
          rintro _ m126 ⟨r127, rfl, hr127a, hr127b, hIm126, gm126, po0_r127⟩
          have hFm126 : zFr W_0 m0 m126 := hFm3.trans gm126 rfl
          have km126_1_0 : m126 1 0 = f123 := (gm126 1 0 rfl).trans ef123
          have km126_1_1 : m126 1 1 = f124 := (gm126 1 1 rfl).trans ef124
          have km126_1_2 : m126 1 2 = f125 := (gm126 1 2 rfl).trans ef125
          show zW E (d) 0 476 [(6, 0), (2, 0), (2, 69), (0, i2)] [(0, r127)] m126 Q
          refine zw_115 zr_0_476 rfl ?_
          refine zw_7 zr_0_477 rfl ?_
          refine zw_7s zr_0_478 rfl ?_
          refine zw_3 zr_0_479 rfl ?_
          refine zw_push zr_0_480 ?_
          refine zw_16 zr_0_481 (by omega) ?_
          refine zw_100k zr_0_482 rfl (by omega) (by omega) ex120.symm ?_
          refine zw_7s zr_0_483 rfl ?_
          refine zw_3 zr_0_484 rfl ?_
          refine zw_push zr_0_485 ?_
          refine zw_16 zr_0_486 (by omega) ?_
          refine zw_100k zr_0_487 rfl (by omega) (by omega) ex121.symm ?_
          refine zw_7s zr_0_488 rfl ?_
          refine zw_3 zr_0_489 rfl ?_
          refine zw_push zr_0_490 ?_
          refine zw_16 zr_0_491 (by omega) ?_
          refine zw_100k zr_0_492 rfl (by omega) (by omega) ex122.symm ?_
          obtain ⟨f128, ef128⟩ : ∃ v, m126 70 822 = v := ⟨_, rfl⟩
          have bf128 : 0 ≤ m126 70 822 ∧ m126 70 822 ≤ 10 := ib_70_players hIm126 (by omega)
          rw [ef128] at bf128
          obtain ⟨f129, ef129⟩ : ∃ v, m126 70 823 = v := ⟨_, rfl⟩
          have bf129 : 0 ≤ m126 70 823 ∧ m126 70 823 ≤ 60 := ib_70_meetings hIm126 (by omega)
          rw [ef129] at bf129
          refine zw_C zr_0_493 (Or.inl rfl) zm_168 rfl rfl ⟨Nat.le_of_ble_eq_true rfl, Nat.le_of_ble_eq_true rfl, Nat.le_of_ble_eq_true rfl, rfl, by decide⟩ (by omega) (th_168 (d := d - 1) (by omega) hIm126 (a0 := x120) (a1 := x121) (a2 := x122) (g0 := f128) (g1 := f129)  (F70 := m126 70) (F76 := m126 76) (F77 := m126 77) (F78 := m126 78) ef128 ef129 rfl rfl rfl rfl (by omega) (by omega) (by omega) ) ?_
          rintro _ m130 ⟨r131, rfl, hr131a, hr131b, hIm130, gm130, po0_r131⟩
          have hFm130 : zFr W_0 m0 m130 := hFm126.trans gm130 rfl
          have km130_1_0 : m130 1 0 = f123 := (gm130 1 0 rfl).trans km126_1_0
          have km130_1_1 : m130 1 1 = f124 := (gm130 1 1 rfl).trans km126_1_1
          have km130_1_2 : m130 1 2 = f125 := (gm130 1 2 rfl).trans km126_1_2
          have km130_70_822 : m130 70 822 = f128 := (gm130 70 822 rfl).trans ef128
          have km130_70_823 : m130 70 823 = f129 := (gm130 70 823 rfl).trans ef129
          show zW E (d) 0 496 [(6, 0), (2, 0), (2, 69), (0, i2)] [(0, r131)] m130 Q
          have hkz132_0 := zk_fr hv0lp18_4 gm126
          have hkz132_1 := zk_fr hkz132_0 gm130
          have hqz133 := zq_number hIm3 hv0lp18_4 gm126 ef123 ef124 ef125 po0_r127 ef128 ef129 po0_r131
          clear po0_r127 po0_r131
          refine zw_115 zr_0_496 rfl ?_
          refine zw_42 zr_0_497 ?_
          refine zw_15 (c := 6) (L' := [(6, 0), (2, 0), (2, 69), (0, (i2 + 6))]) zr_0_1238 rfl (by decide) (by omega) rfl ?_
          refine zw_42 zr_0_1241 ?_
          exact zw_less (L := [(6, 0), (2, 0), (2, 69), (0, (i2 + 6))]) ⟨Or.inr rfl, Or.inr rfl, Or.inr rfl, Or.inr rfl, trivial⟩ (ihlp18_4 ((i2 + 6)) m130 hIm130 hFm130   (by omega) (by omega) (by assumption) (by omega))
        by_cases h135 : x9 = 8
        · refine zw_111 (t := 500) zr_0_33 (by rw [h135]; rfl) ?_
          refine zw_7 zr_0_500 rfl ?_
          refine zw_7s zr_0_501 rfl ?_
          refine zw_3 zr_0_502 rfl ?_
          refine zw_push zr_0_503 ?_
          refine zw_16 zr_0_504 (by omega) ?_
          refine zw_100 zr_0_505 rfl (by omega) (by omega) ?_
          intro x136 ex136 hx136a hx136b
          refine zw_7s zr_0_506 rfl ?_
          refine zw_3 zr_0_507 rfl ?_
          refine zw_push zr_0_508 ?_
          refine zw_16 zr_0_509 (by omega) ?_
          refine zw_100 zr_0_510 rfl (by omega) (by omega) ?_
          intro x137 ex137 hx137a hx137b
          obtain ⟨f138, ef138⟩ : ∃ v, m3 1 1 = v := ⟨_, rfl⟩
          have bf138 := ib_1_1 hIm3
          rw [ef138] at bf138
          obtain ⟨f139, ef139⟩ : ∃ v, m3 1 2 = v := ⟨_, rfl⟩
          have bf139 := ib_1_2 hIm3
          rw [ef139] at bf139
          refine zw_C zr_0_511 (Or.inl rfl) zm_110 rfl rfl ⟨Nat.le_of_ble_eq_true rfl, Nat.le_of_ble_eq_true rfl, Nat.le_of_ble_eq_true rfl, rfl, by decide⟩ (by omega) (th_110 (d := d - 1) (by omega) hIm3 (a0 := x136) (a1 := x137) (g0 := f138) (g1 := f139)  (F5 := m3 5) (F6 := m3 6) (F7 := m3 7) (F8 := m3 8) (F10 := m3 10) (F11 := m3 11) (F44 := m3 44) (F48 := m3 48) (F50 := m3 50) (F51 := m3 51) (F9 := m3 9) ef138 ef139 rfl rfl rfl rfl rfl rfl rfl rfl rfl rfl rfl (by omega) (by omega) ) ?_
          rintro _ m140 ⟨r141, rfl, hr141a, hr141b, hIm140, gm140, po0_r141⟩
          have hFm140 : zFr W_0 m0 m140 := hFm3.trans gm140 rfl
          have km140_1_1 : m140 1 1 = f138 := (gm140 1 1 rfl).trans ef138
          have km140_1_2 : m140 1 2 = f139 := (gm140 1 2 rfl).trans ef139
          show zW E (d) 0 514 [(6, 0), (2, 0), (2, 69), (0, i2)] [(0, r141)] m140 Q
          refine zw_115 zr_0_514 rfl ?_
          refine zw_7 zr_0_515 rfl ?_
          refine zw_7s zr_0_516 rfl ?_
          refine zw_3 zr_0_517 rfl ?_
          refine zw_push zr_0_518 ?_
          refine zw_16 zr_0_519 (by omega) ?_
          refine zw_100k zr_0_520 rfl (by omega) (by omega) ex136.symm ?_
          refine zw_7s zr_0_521 rfl ?_
          refine zw_3 zr_0_522 rfl ?_
          refine zw_push zr_0_523 ?_
          refine zw_16 zr_0_524 (by omega) ?_
          refine zw_100k zr_0_525 rfl (by omega) (by omega) ex137.symm ?_
          obtain ⟨f142, ef142⟩ : ∃ v, m140 70 823 = v := ⟨_, rfl⟩
          have bf142 : 0 ≤ m140 70 823 ∧ m140 70 823 ≤ 60 := ib_70_meetings hIm140 (by omega)
          rw [ef142] at bf142
          refine zw_C zr_0_526 (Or.inl rfl) zm_170 rfl rfl ⟨Nat.le_of_ble_eq_true rfl, Nat.le_of_ble_eq_true rfl, Nat.le_of_ble_eq_true rfl, rfl, by decide⟩ (by omega) (th_170 (d := d - 1) (by omega) hIm140 (a0 := x136) (a1 := x137) (g0 := f142)  (F70 := m140 70) (F76 := m140 76) (F77 := m140 77) (F78 := m140 78) ef142 rfl rfl rfl rfl (by omega) (by omega) ) ?_
          rintro _ m143 ⟨r144, rfl, hr144a, hr144b, hIm143, gm143, po0_r144⟩
          have hFm143 : zFr W_0 m0 m143 := hFm140.trans gm143 rfl
          have km143_1_1 : m143 1 1 = f138 := (gm143 1 1 rfl).trans km140_1_1
          have km143_1_2 : m143 1 2 = f139 := (gm143 1 2 rfl).trans km140_1_2
          have km143_70_823 : m143 70 823 = f142 := (gm143 70 823 rfl).trans ef142
          show zW E (d) 0 529 [(6, 0), (2, 0), (2, 69), (0, i2)] [(0, r144)] m143 Q
          have hkz145_0 := zk_fr hv0lp18_4 gm140
          have hkz145_1 := zk_fr hkz145_0 gm143
          have hqz146 := zq_paid hIm3 hv0lp18_4 gm140 ef138 ef139 po0_r141 ef142 po0_r144
          clear po0_r141 po0_r144
          refine zw_115 zr_0_529 rfl ?_
          refine zw_42 zr_0_530 ?_
          refine zw_15 (c := 6) (L' := [(6, 0), (2, 0), (2, 69), (0, (i2 + 6))]) zr_0_1238 rfl (by decide) (by omega) rfl ?_
          refine zw_42 zr_0_1241 ?_
          exact zw_less (L := [(6, 0), (2, 0), (2, 69), (0, (i2 + 6))]) ⟨Or.inr rfl, Or.inr rfl, Or.inr rfl, Or.inr rfl, trivial⟩ (ihlp18_4 ((i2 + 6)) m143 hIm143 hFm143   (by omega) (by omega) (by assumption) (by omega))
        by_cases h148 : x9 = 9
        · refine zw_111 (t := 533) zr_0_33 (by rw [h148]; rfl) ?_
          refine zw_7 zr_0_533 rfl ?_
          refine zw_7s zr_0_534 rfl ?_
          refine zw_3 zr_0_535 rfl ?_
          refine zw_push zr_0_536 ?_
          refine zw_16 zr_0_537 (by omega) ?_
          refine zw_100 zr_0_538 rfl (by omega) (by omega) ?_
          intro x149 ex149 hx149a hx149b
          refine zw_7s zr_0_539 rfl ?_
          refine zw_3 zr_0_540 rfl ?_
          refine zw_push zr_0_541 ?_
          refine zw_16 zr_0_542 (by omega) ?_
          refine zw_100 zr_0_543 rfl (by omega) (by omega) ?_
          intro x150 ex150 hx150a hx150b
          refine zw_7s zr_0_544 rfl ?_
          refine zw_3 zr_0_545 rfl ?_
          refine zw_push zr_0_546 ?_
          refine zw_16 zr_0_547 (by omega) ?_
          refine zw_100 zr_0_548 rfl (by omega) (by omega) ?_
          intro x151 ex151 hx151a hx151b
          refine zw_C zr_0_549 (Or.inl rfl) zm_111 rfl rfl ⟨Nat.le_of_ble_eq_true rfl, Nat.le_of_ble_eq_true rfl, Nat.le_of_ble_eq_true rfl, rfl, by decide⟩ (by omega) (th_111 (d := d - 1) (by omega) hIm3 (a0 := x149) (a1 := x150) (a2 := x151)      (by omega) (by omega) (by omega) ) ?_
          rintro _ m152 ⟨r153, rfl, hr153a, hr153b, hIm152, gm152⟩
          have hFm152 : zFr W_0 m0 m152 := hFm3.trans gm152 rfl
          show zW E (d) 0 552 [(6, 0), (2, 0), (2, 69), (0, i2)] [(0, r153)] m152 Q
          refine zw_115 zr_0_552 rfl ?_
          refine zw_7 zr_0_553 rfl ?_
          refine zw_7s zr_0_554 rfl ?_
          refine zw_3 zr_0_555 rfl ?_
          refine zw_push zr_0_556 ?_
          refine zw_16 zr_0_557 (by omega) ?_
          refine zw_100k zr_0_558 rfl (by omega) (by omega) ex149.symm ?_
          refine zw_7s zr_0_559 rfl ?_
          refine zw_3 zr_0_560 rfl ?_
          refine zw_push zr_0_561 ?_
          refine zw_16 zr_0_562 (by omega) ?_
          refine zw_100k zr_0_563 rfl (by omega) (by omega) ex150.symm ?_
          refine zw_7s zr_0_564 rfl ?_
          refine zw_3 zr_0_565 rfl ?_
          refine zw_push zr_0_566 ?_
          refine zw_16 zr_0_567 (by omega) ?_
          refine zw_100k zr_0_568 rfl (by omega) (by omega) ex151.symm ?_
          refine zw_C zr_0_569 (Or.inl rfl) zm_174 rfl rfl ⟨Nat.le_of_ble_eq_true rfl, Nat.le_of_ble_eq_true rfl, Nat.le_of_ble_eq_true rfl, rfl, by decide⟩ (by omega) (th_174 (d := d - 1) (by omega) hIm152 (a0 := x149) (a1 := x150) (a2 := x151)      (by omega) (by omega) (by omega) ) ?_
          rintro _ m154 ⟨r155, rfl, hr155a, hr155b, hIm154, gm154⟩
          have hFm154 : zFr W_0 m0 m154 := hFm152.trans gm154 rfl
          show zW E (d) 0 572 [(6, 0), (2, 0), (2, 69), (0, i2)] [(0, r155)] m154 Q
          have hkz156_0 := zk_fr hv0lp18_4 gm152
          have hkz156_1 := zk_fr hkz156_0 gm154
          refine zw_115 zr_0_572 rfl ?_
          refine zw_42 zr_0_573 ?_
          refine zw_15 (c := 6) (L' := [(6, 0), (2, 0), (2, 69), (0, (i2 + 6))]) zr_0_1238 rfl (by decide) (by omega) rfl ?_
          refine zw_42 zr_0_1241 ?_
          exact zw_less (L := [(6, 0), (2, 0), (2, 69), (0, (i2 + 6))]) ⟨Or.inr rfl, Or.inr rfl, Or.inr rfl, Or.inr rfl, trivial⟩ (ihlp18_4 ((i2 + 6)) m154 hIm154 hFm154   (by omega) (by omega) (by assumption) (by omega))
        by_cases h158 : x9 = 10
        · refine zw_111 (t := 576) zr_0_33 (by rw [h158]; rfl) ?_
          refine zw_7 zr_0_576 rfl ?_
          refine zw_7s zr_0_577 rfl ?_
          refine zw_3 zr_0_578 rfl ?_
          refine zw_push zr_0_579 ?_
          refine zw_16 zr_0_580 (by omega) ?_
          refine zw_100 zr_0_581 rfl (by omega) (by omega) ?_
          intro x159 ex159 hx159a hx159b
          refine zw_7s zr_0_582 rfl ?_
          refine zw_3 zr_0_583 rfl ?_
          refine zw_push zr_0_584 ?_
          refine zw_16 zr_0_585 (by omega) ?_
          refine zw_100 zr_0_586 rfl (by omega) (by omega) ?_
          intro x160 ex160 hx160a hx160b
          refine zw_7s zr_0_587 rfl ?_
          refine zw_3 zr_0_588 rfl ?_
          refine zw_push zr_0_589 ?_
          refine zw_16 zr_0_590 (by omega) ?_
          refine zw_100 zr_0_591 rfl (by omega) (by omega) ?_
          intro x161 ex161 hx161a hx161b
          obtain ⟨f162, ef162⟩ : ∃ v, m3 1 0 = v := ⟨_, rfl⟩
          have bf162 := ib_1_0 hIm3
          rw [ef162] at bf162
          obtain ⟨f163, ef163⟩ : ∃ v, m3 1 1 = v := ⟨_, rfl⟩
          have bf163 := ib_1_1 hIm3
          rw [ef163] at bf163
          obtain ⟨f164, ef164⟩ : ∃ v, m3 1 2 = v := ⟨_, rfl⟩
          have bf164 := ib_1_2 hIm3
          rw [ef164] at bf164
          refine zw_C zr_0_592 (Or.inl rfl) zm_112 rfl rfl ⟨Nat.le_of_ble_eq_true rfl, Nat.le_of_ble_eq_true rfl, Nat.le_of_ble_eq_true rfl, rfl, by decide⟩ (by omega) (th_112 (d := d - 1) (by omega) hIm3 (a0 := x159) (a1 := x160) (a2 := x161) (g0 := f162) (g1 := f163) (g2 := f164)  (F5 := m3 5) (F6 := m3 6) (F7 := m3 7) (F8 := m3 8) (F10 := m3 10) (F11 := m3 11) (F44 := m3 44) (F48 := m3 48) (F50 := m3 50) (F51 := m3 51) (F9 := m3 9) ef162 ef163 ef164 rfl rfl rfl rfl rfl rfl rfl rfl rfl rfl rfl (by omega) (by omega) (by omega) ) ?_
          rintro _ m165 ⟨r166, rfl, hr166a, hr166b, hIm165, gm165, po0_r166⟩
          have hFm165 : zFr W_0 m0 m165 := hFm3.trans gm165 rfl
          have km165_1_0 : m165 1 0 = f162 := (gm165 1 0 rfl).trans ef162
          have km165_1_1 : m165 1 1 = f163 := (gm165 1 1 rfl).trans ef163
          have km165_1_2 : m165 1 2 = f164 := (gm165 1 2 rfl).trans ef164
          show zW E (d) 0 595 [(6, 0), (2, 0), (2, 69), (0, i2)] [(0, r166)] m165 Q
          refine zw_115 zr_0_595 rfl ?_
          refine zw_7 zr_0_596 rfl ?_
          refine zw_7s zr_0_597 rfl ?_
          refine zw_3 zr_0_598 rfl ?_
          refine zw_push zr_0_599 ?_
          refine zw_16 zr_0_600 (by omega) ?_
          refine zw_100k zr_0_601 rfl (by omega) (by omega) ex159.symm ?_
          refine zw_7s zr_0_602 rfl ?_
          refine zw_3 zr_0_603 rfl ?_
          refine zw_push zr_0_604 ?_
          refine zw_16 zr_0_605 (by omega) ?_
          refine zw_100k zr_0_606 rfl (by omega) (by omega) ex160.symm ?_
          refine zw_7s zr_0_607 rfl ?_
          refine zw_3 zr_0_608 rfl ?_
          refine zw_push zr_0_609 ?_
          refine zw_16 zr_0_610 (by omega) ?_
          refine zw_100k zr_0_611 rfl (by omega) (by omega) ex161.symm ?_
          obtain ⟨f167, ef167⟩ : ∃ v, m165 70 822 = v := ⟨_, rfl⟩
          have bf167 : 0 ≤ m165 70 822 ∧ m165 70 822 ≤ 10 := ib_70_players hIm165 (by omega)
          rw [ef167] at bf167
          obtain ⟨f168, ef168⟩ : ∃ v, m165 70 823 = v := ⟨_, rfl⟩
          have bf168 : 0 ≤ m165 70 823 ∧ m165 70 823 ≤ 60 := ib_70_meetings hIm165 (by omega)
          rw [ef168] at bf168
          refine zw_C zr_0_612 (Or.inl rfl) zm_175 rfl rfl ⟨Nat.le_of_ble_eq_true rfl, Nat.le_of_ble_eq_true rfl, Nat.le_of_ble_eq_true rfl, rfl, by decide⟩ (by omega) (th_175 (d := d - 1) (by omega) hIm165 (a0 := x159) (a1 := x160) (a2 := x161) (g0 := f167) (g1 := f168)  (F70 := m165 70) (F76 := m165 76) (F77 := m165 77) (F78 := m165 78) ef167 ef168 rfl rfl rfl rfl (by omega) (by omega) (by omega) ) ?_
          rintro _ m169 ⟨r170, rfl, hr170a, hr170b, hIm169, gm169, po0_r170⟩
          have hFm169 : zFr W_0 m0 m169 := hFm165.trans gm169 rfl
          have km169_1_0 : m169 1 0 = f162 := (gm169 1 0 rfl).trans km165_1_0
          have km169_1_1 : m169 1 1 = f163 := (gm169 1 1 rfl).trans km165_1_1
          have km169_1_2 : m169 1 2 = f164 := (gm169 1 2 rfl).trans km165_1_2
          have km169_70_822 : m169 70 822 = f167 := (gm169 70 822 rfl).trans ef167
          have km169_70_823 : m169 70 823 = f168 := (gm169 70 823 rfl).trans ef168
          show zW E (d) 0 615 [(6, 0), (2, 0), (2, 69), (0, i2)] [(0, r170)] m169 Q
          have hkz171_0 := zk_fr hv0lp18_4 gm165
          have hkz171_1 := zk_fr hkz171_0 gm169
          have hqz172 := zq_hiding hIm3 hv0lp18_4 gm165 ef162 ef163 ef164 po0_r166 ef167 ef168 po0_r170
          clear po0_r166 po0_r170
          refine zw_115 zr_0_615 rfl ?_
          refine zw_42 zr_0_616 ?_
          refine zw_15 (c := 6) (L' := [(6, 0), (2, 0), (2, 69), (0, (i2 + 6))]) zr_0_1238 rfl (by decide) (by omega) rfl ?_
          refine zw_42 zr_0_1241 ?_
          exact zw_less (L := [(6, 0), (2, 0), (2, 69), (0, (i2 + 6))]) ⟨Or.inr rfl, Or.inr rfl, Or.inr rfl, Or.inr rfl, trivial⟩ (ihlp18_4 ((i2 + 6)) m169 hIm169 hFm169   (by omega) (by omega) (by assumption) (by omega))
        by_cases h174 : x9 = 11
        · refine zw_111 (t := 619) zr_0_33 (by rw [h174]; rfl) ?_
          refine zw_7 zr_0_619 rfl ?_
          refine zw_7s zr_0_620 rfl ?_
          refine zw_3 zr_0_621 rfl ?_
          refine zw_push zr_0_622 ?_
          refine zw_16 zr_0_623 (by omega) ?_
          refine zw_100 zr_0_624 rfl (by omega) (by omega) ?_
          intro x175 ex175 hx175a hx175b
          obtain ⟨f176, ef176⟩ : ∃ v, m3 1 1 = v := ⟨_, rfl⟩
          have bf176 := ib_1_1 hIm3
          rw [ef176] at bf176
          obtain ⟨f177, ef177⟩ : ∃ v, m3 1 2 = v := ⟨_, rfl⟩
          have bf177 := ib_1_2 hIm3
          rw [ef177] at bf177
          refine zw_C zr_0_625 (Or.inl rfl) zm_113 rfl rfl ⟨Nat.le_of_ble_eq_true rfl, Nat.le_of_ble_eq_true rfl, Nat.le_of_ble_eq_true rfl, rfl, by decide⟩ (by omega) (th_113 (d := d - 1) (by omega) hIm3 (a0 := x175) (g0 := f176) (g1 := f177)  (F5 := m3 5) (F6 := m3 6) (F7 := m3 7) (F8 := m3 8) (F10 := m3 10) (F11 := m3 11) (F44 := m3 44) (F48 := m3 48) (F50 := m3 50) (F51 := m3 51) (F9 := m3 9) ef176 ef177 rfl rfl rfl rfl rfl rfl rfl rfl rfl rfl rfl (by omega) ) ?_
          rintro _ m178 ⟨r179, rfl, hr179a, hr179b, hIm178, gm178, po0_r179⟩
          have hFm178 : zFr W_0 m0 m178 := hFm3.trans gm178 rfl
          have km178_1_1 : m178 1 1 = f176 := (gm178 1 1 rfl).trans ef176
          have km178_1_2 : m178 1 2 = f177 := (gm178 1 2 rfl).trans ef177
          show zW E (d) 0 628 [(6, 0), (2, 0), (2, 69), (0, i2)] [(0, r179)] m178 Q
          refine zw_115 zr_0_628 rfl ?_
          refine zw_7 zr_0_629 rfl ?_
          refine zw_7s zr_0_630 rfl ?_
          refine zw_3 zr_0_631 rfl ?_
          refine zw_push zr_0_632 ?_
          refine zw_16 zr_0_633 (by omega) ?_
          refine zw_100k zr_0_634 rfl (by omega) (by omega) ex175.symm ?_
          obtain ⟨f180, ef180⟩ : ∃ v, m178 70 823 = v := ⟨_, rfl⟩
          have bf180 : 0 ≤ m178 70 823 ∧ m178 70 823 ≤ 60 := ib_70_meetings hIm178 (by omega)
          rw [ef180] at bf180
          refine zw_C zr_0_635 (Or.inl rfl) zm_177 rfl rfl ⟨Nat.le_of_ble_eq_true rfl, Nat.le_of_ble_eq_true rfl, Nat.le_of_ble_eq_true rfl, rfl, by decide⟩ (by omega) (th_177 (d := d - 1) (by omega) hIm178 (a0 := x175) (g0 := f180)  (F70 := m178 70) ef180 rfl (by omega) ) ?_
          rintro _ m181 ⟨r182, rfl, hr182a, hr182b, hIm181, gm181, po0_r182⟩
          have hFm181 : zFr W_0 m0 m181 := hFm178.trans gm181 rfl
          have km181_1_1 : m181 1 1 = f176 := (gm181 1 1 rfl).trans km178_1_1
          have km181_1_2 : m181 1 2 = f177 := (gm181 1 2 rfl).trans km178_1_2
          have km181_70_823 : m181 70 823 = f180 := (gm181 70 823 rfl).trans ef180
          show zW E (d) 0 638 [(6, 0), (2, 0), (2, 69), (0, i2)] [(0, r182)] m181 Q
          have hkz183_0 := zk_fr hv0lp18_4 gm178
          have hkz183_1 := zk_fr hkz183_0 gm181
          have hqz184 := zq_foretold hIm3 hv0lp18_4 gm178 ef176 ef177 po0_r179 ef180 po0_r182
          clear po0_r179 po0_r182
          refine zw_115 zr_0_638 rfl ?_
          refine zw_42 zr_0_639 ?_
          refine zw_15 (c := 6) (L' := [(6, 0), (2, 0), (2, 69), (0, (i2 + 6))]) zr_0_1238 rfl (by decide) (by omega) rfl ?_
          refine zw_42 zr_0_1241 ?_
          exact zw_less (L := [(6, 0), (2, 0), (2, 69), (0, (i2 + 6))]) ⟨Or.inr rfl, Or.inr rfl, Or.inr rfl, Or.inr rfl, trivial⟩ (ihlp18_4 ((i2 + 6)) m181 hIm181 hFm181   (by omega) (by omega) (by assumption) (by omega))
        by_cases h186 : x9 = 12
        · refine zw_111 (t := 642) zr_0_33 (by rw [h186]; rfl) ?_
          refine zw_7 zr_0_642 rfl ?_
          obtain ⟨f187, ef187⟩ : ∃ v, m3 1 1 = v := ⟨_, rfl⟩
          have bf187 := ib_1_1 hIm3
          rw [ef187] at bf187
          obtain ⟨f188, ef188⟩ : ∃ v, m3 1 2 = v := ⟨_, rfl⟩
          have bf188 := ib_1_2 hIm3
          rw [ef188] at bf188
          refine zw_C zr_0_643 (Or.inl rfl) zm_114 rfl rfl ⟨Nat.le_of_ble_eq_true rfl, Nat.le_of_ble_eq_true rfl, Nat.le_of_ble_eq_true rfl, rfl, by decide⟩ (by omega) (th_114 (d := d - 1) (by omega) hIm3  (g0 := f187) (g1 := f188)  (F5 := m3 5) (F6 := m3 6) (F7 := m3 7) (F8 := m3 8) (F10 := m3 10) (F11 := m3 11) (F44 := m3 44) (F48 := m3 48) (F50 := m3 50) (F51 := m3 51) (F9 := m3 9) ef187 ef188 rfl rfl rfl rfl rfl rfl rfl rfl rfl rfl rfl  ) ?_
          rintro _ m189 ⟨r190, rfl, hr190a, hr190b, hIm189, gm189, po0_r190⟩
          have hFm189 : zFr W_0 m0 m189 := hFm3.trans gm189 rfl
          have km189_1_1 : m189 1 1 = f187 := (gm189 1 1 rfl).trans ef187
          have km189_1_2 : m189 1 2 = f188 := (gm189 1 2 rfl).trans ef188
          show zW E (d) 0 646 [(6, 0), (2, 0), (2, 69), (0, i2)] [(0, r190)] m189 Q
          refine zw_7 zr_0_646 rfl ?_
          obtain ⟨f191, ef191⟩ : ∃ v, m189 70 823 = v := ⟨_, rfl⟩
          have bf191 : 0 ≤ m189 70 823 ∧ m189 70 823 ≤ 60 := ib_70_meetings hIm189 (by omega)
          rw [ef191] at bf191
          refine zw_C zr_0_647 (Or.inl rfl) zm_178 rfl rfl ⟨Nat.le_of_ble_eq_true rfl, Nat.le_of_ble_eq_true rfl, Nat.le_of_ble_eq_true rfl, rfl, by decide⟩ (by omega) (th_178 (d := d - 1) (by omega) hIm189  (g0 := f191)  (F70 := m189 70) (F75 := m189 75) ef191 rfl rfl  ) ?_
          rintro _ m192 ⟨r193, rfl, hr193a, hr193b, hIm192, gm192, po0_r193⟩
          have hFm192 : zFr W_0 m0 m192 := hFm189.trans gm192 rfl
          have km192_1_1 : m192 1 1 = f187 := (gm192 1 1 rfl).trans km189_1_1
          have km192_1_2 : m192 1 2 = f188 := (gm192 1 2 rfl).trans km189_1_2
          have km192_70_823 : m192 70 823 = f191 := (gm192 70 823 rfl).trans ef191
          show zW E (d) 0 650 [(6, 0), (2, 0), (2, 69), (0, i2)] [(0, r193), (0, r190)] m192 Q
          have hkz194_0 := zk_fr hv0lp18_4 gm189
          have hkz194_1 := zk_fr hkz194_0 gm192
          have hqz195 := zq_bestSystem hIm3 hv0lp18_4 gm189 ef187 ef188 po0_r190 ef191 po0_r193
          clear po0_r190 po0_r193
          refine zw_41_1 zr_0_650 ?_ ?_
          · intro h196
            refine zw_15 (c := 6) (L' := [(6, 0), (2, 0), (2, 69), (0, (i2 + 6))]) zr_0_1238 rfl (by decide) (by omega) rfl ?_
            refine zw_42 zr_0_1241 ?_
            exact zw_less (L := [(6, 0), (2, 0), (2, 69), (0, (i2 + 6))]) ⟨Or.inr rfl, Or.inr rfl, Or.inr rfl, Or.inr rfl, trivial⟩ (ihlp18_4 ((i2 + 6)) m192 hIm192 hFm192   (by omega) (by omega) (by assumption) (by omega))
          · intro h198
            refine zw_push zr_0_653 ?_
            refine zw_R zr_0_654 (by decide) zm_0 (v := (0, 0)) (zRetB (by omega)) ?_
            rw [← hQ]; exact ⟨_, rfl, by omega, by omega, hIm192, hFm192⟩
        by_cases h199 : x9 = 13
        · refine zw_111 (t := 655) zr_0_33 (by rw [h199]; rfl) ?_
          refine zw_7 zr_0_655 rfl ?_
          refine zw_7s zr_0_656 rfl ?_
          refine zw_3 zr_0_657 rfl ?_
          refine zw_push zr_0_658 ?_
          refine zw_16 zr_0_659 (by omega) ?_
          refine zw_100 zr_0_660 rfl (by omega) (by omega) ?_
          intro x200 ex200 hx200a hx200b
          refine zw_7s zr_0_661 rfl ?_
          refine zw_3 zr_0_662 rfl ?_
          refine zw_push zr_0_663 ?_
          refine zw_16 zr_0_664 (by omega) ?_
          refine zw_100 zr_0_665 rfl (by omega) (by omega) ?_
          intro x201 ex201 hx201a hx201b
          refine zw_C zr_0_666 (Or.inl rfl) zm_115 rfl rfl ⟨Nat.le_of_ble_eq_true rfl, Nat.le_of_ble_eq_true rfl, Nat.le_of_ble_eq_true rfl, rfl, by decide⟩ (by omega) (th_115 (d := d - 1) (by omega) hIm3 (a0 := x200) (a1 := x201)   (F12 := m3 12)  rfl (by omega) (by omega) ) ?_
          rintro _ m202 ⟨r203, rfl, hr203a, hr203b, hIm202, gm202, po0_r203, po1_r203⟩
          have hFm202 : zFr W_0 m0 m202 := hFm3.trans gm202 rfl
          show zW E (d) 0 669 [(6, 0), (2, 0), (2, 69), (0, i2)] [(0, r203)] m202 Q
          refine zw_115 zr_0_669 rfl ?_
          refine zw_7 zr_0_670 rfl ?_
          refine zw_7s zr_0_671 rfl ?_
          refine zw_3 zr_0_672 rfl ?_
          refine zw_push zr_0_673 ?_
          refine zw_16 zr_0_674 (by omega) ?_
          refine zw_100k zr_0_675 rfl (by omega) (by omega) ex200.symm ?_
          refine zw_7s zr_0_676 rfl ?_
          refine zw_3 zr_0_677 rfl ?_
          refine zw_push zr_0_678 ?_
          refine zw_16 zr_0_679 (by omega) ?_
          refine zw_100k zr_0_680 rfl (by omega) (by omega) ex201.symm ?_
          refine zw_C zr_0_681 (Or.inl rfl) zm_179 rfl rfl ⟨Nat.le_of_ble_eq_true rfl, Nat.le_of_ble_eq_true rfl, Nat.le_of_ble_eq_true rfl, rfl, by decide⟩ (by omega) (th_179 (d := d - 1) (by omega) hIm202 (a0 := x200) (a1 := x201)   (F70 := m202 70)  rfl (by omega) (by omega) ) ?_
          rintro _ m204 ⟨r205, rfl, hr205a, hr205b, hIm204, gm204, po0_r205, po1_r205⟩
          have hFm204 : zFr W_0 m0 m204 := hFm202.trans gm204 rfl
          show zW E (d) 0 684 [(6, 0), (2, 0), (2, 69), (0, i2)] [(0, r205)] m204 Q
          obtain ⟨hkz206, hrz206⟩ := zk_shape hIm3 hv0lp18_4 gm202 po0_r203 po1_r203 gm204 po0_r205 po1_r205
          refine zw_115 zr_0_684 rfl ?_
          refine zw_42 zr_0_685 ?_
          refine zw_15 (c := 6) (L' := [(6, 0), (2, 0), (2, 69), (0, (i2 + 6))]) zr_0_1238 rfl (by decide) (by omega) rfl ?_
          refine zw_42 zr_0_1241 ?_
          exact zw_less (L := [(6, 0), (2, 0), (2, 69), (0, (i2 + 6))]) ⟨Or.inr rfl, Or.inr rfl, Or.inr rfl, Or.inr rfl, trivial⟩ (ihlp18_4 ((i2 + 6)) m204 hIm204 hFm204   (by omega) (by omega) (by assumption) (by omega))
        by_cases h208 : x9 = 14
        · refine zw_111 (t := 688) zr_0_33 (by rw [h208]; rfl) ?_
          refine zw_7 zr_0_688 rfl ?_
          refine zw_7s zr_0_689 rfl ?_
          refine zw_3 zr_0_690 rfl ?_
          refine zw_push zr_0_691 ?_
          refine zw_16 zr_0_692 (by omega) ?_
          refine zw_100 zr_0_693 rfl (by omega) (by omega) ?_
          intro x209 ex209 hx209a hx209b
          refine zw_7s zr_0_694 rfl ?_
          refine zw_3 zr_0_695 rfl ?_
          refine zw_push zr_0_696 ?_
          refine zw_16 zr_0_697 (by omega) ?_
          refine zw_100 zr_0_698 rfl (by omega) (by omega) ?_
          intro x210 ex210 hx210a hx210b
          obtain ⟨f211, ef211⟩ : ∃ v, m3 1 4 = v := ⟨_, rfl⟩
          have bf211 := ib_1_4 hIm3
          rw [ef211] at bf211
          obtain ⟨f212, ef212⟩ : ∃ v, m3 1 5 = v := ⟨_, rfl⟩
          have bf212 := ib_1_5 hIm3
          rw [ef212] at bf212
          refine zw_C zr_0_699 (Or.inl rfl) zm_116 rfl rfl ⟨Nat.le_of_ble_eq_true rfl, Nat.le_of_ble_eq_true rfl, Nat.le_of_ble_eq_true rfl, rfl, by decide⟩ (by omega) (th_116 (d := d - 1) (by omega) hIm3 (a0 := x209) (a1 := x210) (g0 := f211) (g1 := f212)   ef211 ef212  (by omega) (by omega) ) ?_
          rintro _ m213 ⟨r214, rfl, hr214a, hr214b, hIm213, gm213, po0_r214, po1_r214⟩
          have hFm213 : zFr W_0 m0 m213 := hFm3.trans gm213 rfl
          show zW E (d) 0 702 [(6, 0), (2, 0), (2, 69), (0, i2)] [(0, r214)] m213 Q
          refine zw_115 zr_0_702 rfl ?_
          refine zw_7 zr_0_703 rfl ?_
          refine zw_7s zr_0_704 rfl ?_
          refine zw_3 zr_0_705 rfl ?_
          refine zw_push zr_0_706 ?_
          refine zw_16 zr_0_707 (by omega) ?_
          refine zw_100k zr_0_708 rfl (by omega) (by omega) ex209.symm ?_
          refine zw_7s zr_0_709 rfl ?_
          refine zw_3 zr_0_710 rfl ?_
          refine zw_push zr_0_711 ?_
          refine zw_16 zr_0_712 (by omega) ?_
          refine zw_100k zr_0_713 rfl (by omega) (by omega) ex210.symm ?_
          refine zw_C zr_0_714 (Or.inl rfl) zm_180 rfl rfl ⟨Nat.le_of_ble_eq_true rfl, Nat.le_of_ble_eq_true rfl, Nat.le_of_ble_eq_true rfl, rfl, by decide⟩ (by omega) (th_180 (d := d - 1) (by omega) hIm213 (a0 := x209) (a1 := x210)   (F70 := m213 70)  rfl (by omega) (by omega) ) ?_
          rintro _ m215 ⟨r216, rfl, hr216a, hr216b, hIm215, gm215, po0_r216, po1_r216⟩
          have hFm215 : zFr W_0 m0 m215 := hFm213.trans gm215 rfl
          show zW E (d) 0 717 [(6, 0), (2, 0), (2, 69), (0, i2)] [(0, r216)] m215 Q
          obtain ⟨hkz217, hrz217⟩ := zk_wide hIm3 hv0lp18_4 gm213 ef211 ef212 po0_r214 po1_r214 gm215 po0_r216 po1_r216
          refine zw_115 zr_0_717 rfl ?_
          refine zw_42 zr_0_718 ?_
          refine zw_15 (c := 6) (L' := [(6, 0), (2, 0), (2, 69), (0, (i2 + 6))]) zr_0_1238 rfl (by decide) (by omega) rfl ?_
          refine zw_42 zr_0_1241 ?_
          exact zw_less (L := [(6, 0), (2, 0), (2, 69), (0, (i2 + 6))]) ⟨Or.inr rfl, Or.inr rfl, Or.inr rfl, Or.inr rfl, trivial⟩ (ihlp18_4 ((i2 + 6)) m215 hIm215 hFm215   (by omega) (by omega) (by assumption) (by omega))
        by_cases h219 : x9 = 15
        · refine zw_111 (t := 721) zr_0_33 (by rw [h219]; rfl) ?_
          refine zw_7 zr_0_721 rfl ?_
          refine zw_C zr_0_722 (Or.inl rfl) zm_117 rfl rfl ⟨Nat.le_of_ble_eq_true rfl, Nat.le_of_ble_eq_true rfl, Nat.le_of_ble_eq_true rfl, rfl, by decide⟩ (by omega) (th_117 (d := d - 1) (by omega) hIm3        ) ?_
          rintro _ m220 ⟨r221, rfl, hr221a, hr221b, hIm220, gm220⟩
          have hFm220 : zFr W_0 m0 m220 := hFm3.trans gm220 rfl
          show zW E (d) 0 725 [(6, 0), (2, 0), (2, 69), (0, i2)] [(0, r221)] m220 Q
          refine zw_115 zr_0_725 rfl ?_
          refine zw_7 zr_0_726 rfl ?_
          refine zw_C zr_0_727 (Or.inl rfl) zm_185 rfl rfl ⟨Nat.le_of_ble_eq_true rfl, Nat.le_of_ble_eq_true rfl, Nat.le_of_ble_eq_true rfl, rfl, by decide⟩ (by omega) (th_185 (d := d - 1) (by omega) hIm220        ) ?_
          rintro _ m222 ⟨r223, rfl, hr223a, hr223b, hIm222, gm222⟩
          have hFm222 : zFr W_0 m0 m222 := hFm220.trans gm222 rfl
          show zW E (d) 0 730 [(6, 0), (2, 0), (2, 69), (0, i2)] [(0, r223)] m222 Q
          have hkz224_0 := zk_fr hv0lp18_4 gm220
          have hkz224_1 := zk_fr hkz224_0 gm222
          refine zw_115 zr_0_730 rfl ?_
          refine zw_42 zr_0_731 ?_
          refine zw_15 (c := 6) (L' := [(6, 0), (2, 0), (2, 69), (0, (i2 + 6))]) zr_0_1238 rfl (by decide) (by omega) rfl ?_
          refine zw_42 zr_0_1241 ?_
          exact zw_less (L := [(6, 0), (2, 0), (2, 69), (0, (i2 + 6))]) ⟨Or.inr rfl, Or.inr rfl, Or.inr rfl, Or.inr rfl, trivial⟩ (ihlp18_4 ((i2 + 6)) m222 hIm222 hFm222   (by omega) (by omega) (by assumption) (by omega))
        by_cases h226 : x9 = 16
        · refine zw_111 (t := 734) zr_0_33 (by rw [h226]; rfl) ?_
          refine zw_7 zr_0_734 rfl ?_
          refine zw_7s zr_0_735 rfl ?_
          refine zw_3 zr_0_736 rfl ?_
          refine zw_push zr_0_737 ?_
          refine zw_16 zr_0_738 (by omega) ?_
          refine zw_100 zr_0_739 rfl (by omega) (by omega) ?_
          intro x227 ex227 hx227a hx227b
          refine zw_7s zr_0_740 rfl ?_
          refine zw_3 zr_0_741 rfl ?_
          refine zw_push zr_0_742 ?_
          refine zw_16 zr_0_743 (by omega) ?_
          refine zw_100 zr_0_744 rfl (by omega) (by omega) ?_
          intro x228 ex228 hx228a hx228b
          refine zw_7s zr_0_745 rfl ?_
          refine zw_3 zr_0_746 rfl ?_
          refine zw_push zr_0_747 ?_
          refine zw_16 zr_0_748 (by omega) ?_
          refine zw_100 zr_0_749 rfl (by omega) (by omega) ?_
          intro x229 ex229 hx229a hx229b
          refine zw_C zr_0_750 (Or.inl rfl) zm_118 rfl rfl ⟨Nat.le_of_ble_eq_true rfl, Nat.le_of_ble_eq_true rfl, Nat.le_of_ble_eq_true rfl, rfl, by decide⟩ (by omega) (th_118 (d := d - 1) (by omega) hIm3 (a0 := x227) (a1 := x228) (a2 := x229)      (by omega) (by omega) (by omega) ) ?_
          rintro _ m230 ⟨r231, rfl, hr231a, hr231b, hIm230, gm230⟩
          have hFm230 : zFr W_0 m0 m230 := hFm3.trans gm230 rfl
          show zW E (d) 0 753 [(6, 0), (2, 0), (2, 69), (0, i2)] [(0, r231)] m230 Q
          refine zw_115 zr_0_753 rfl ?_
          refine zw_7 zr_0_754 rfl ?_
          refine zw_7s zr_0_755 rfl ?_
          refine zw_3 zr_0_756 rfl ?_
          refine zw_push zr_0_757 ?_
          refine zw_16 zr_0_758 (by omega) ?_
          refine zw_100k zr_0_759 rfl (by omega) (by omega) ex227.symm ?_
          refine zw_7s zr_0_760 rfl ?_
          refine zw_3 zr_0_761 rfl ?_
          refine zw_push zr_0_762 ?_
          refine zw_16 zr_0_763 (by omega) ?_
          refine zw_100k zr_0_764 rfl (by omega) (by omega) ex228.symm ?_
          refine zw_7s zr_0_765 rfl ?_
          refine zw_3 zr_0_766 rfl ?_
          refine zw_push zr_0_767 ?_
          refine zw_16 zr_0_768 (by omega) ?_
          refine zw_100k zr_0_769 rfl (by omega) (by omega) ex229.symm ?_
          refine zw_C zr_0_770 (Or.inl rfl) zm_186 rfl rfl ⟨Nat.le_of_ble_eq_true rfl, Nat.le_of_ble_eq_true rfl, Nat.le_of_ble_eq_true rfl, rfl, by decide⟩ (by omega) (th_186 (d := d - 1) (by omega) hIm230 (a0 := x227) (a1 := x228) (a2 := x229)      (by omega) (by omega) (by omega) ) ?_
          rintro _ m232 ⟨r233, rfl, hr233a, hr233b, hIm232, gm232⟩
          have hFm232 : zFr W_0 m0 m232 := hFm230.trans gm232 rfl
          show zW E (d) 0 773 [(6, 0), (2, 0), (2, 69), (0, i2)] [(0, r233)] m232 Q
          have hkz234_0 := zk_fr hv0lp18_4 gm230
          have hkz234_1 := zk_fr hkz234_0 gm232
          refine zw_115 zr_0_773 rfl ?_
          refine zw_42 zr_0_774 ?_
          refine zw_15 (c := 6) (L' := [(6, 0), (2, 0), (2, 69), (0, (i2 + 6))]) zr_0_1238 rfl (by decide) (by omega) rfl ?_
          refine zw_42 zr_0_1241 ?_
          exact zw_less (L := [(6, 0), (2, 0), (2, 69), (0, (i2 + 6))]) ⟨Or.inr rfl, Or.inr rfl, Or.inr rfl, Or.inr rfl, trivial⟩ (ihlp18_4 ((i2 + 6)) m232 hIm232 hFm232   (by omega) (by omega) (by assumption) (by omega))
        by_cases h236 : x9 = 17
        · refine zw_111 (t := 777) zr_0_33 (by rw [h236]; rfl) ?_
          refine zw_7 zr_0_777 rfl ?_
          refine zw_C zr_0_778 (Or.inl rfl) zm_119 rfl rfl ⟨Nat.le_of_ble_eq_true rfl, Nat.le_of_ble_eq_true rfl, Nat.le_of_ble_eq_true rfl, rfl, by decide⟩ (by omega) (th_119 (d := d - 1) (by omega) hIm3        ) ?_
          rintro _ m237 ⟨r238, rfl, hr238a, hr238b, hIm237, gm237⟩
          have hFm237 : zFr W_0 m0 m237 := hFm3.trans gm237 rfl
          show zW E (d) 0 781 [(6, 0), (2, 0), (2, 69), (0, i2)] [(1, r238)] m237 Q
          refine zw_116 zr_0_781 rfl ?_
          refine zw_7 zr_0_782 rfl ?_
          refine zw_C zr_0_783 (Or.inl rfl) zm_187 rfl rfl ⟨Nat.le_of_ble_eq_true rfl, Nat.le_of_ble_eq_true rfl, Nat.le_of_ble_eq_true rfl, rfl, by decide⟩ (by omega) (th_187 (d := d - 1) (by omega) hIm237        ) ?_
          rintro _ m239 ⟨r240, rfl, hr240a, hr240b, hIm239, gm239⟩
          have hFm239 : zFr W_0 m0 m239 := hFm237.trans gm239 rfl
          show zW E (d) 0 786 [(6, 0), (2, 0), (2, 69), (0, i2)] [(1, r240)] m239 Q
          have hkz241_0 := zk_fr hv0lp18_4 gm237
          have hkz241_1 := zk_fr hkz241_0 gm239
          refine zw_116 zr_0_786 rfl ?_
          refine zw_42 zr_0_787 ?_
          refine zw_15 (c := 6) (L' := [(6, 0), (2, 0), (2, 69), (0, (i2 + 6))]) zr_0_1238 rfl (by decide) (by omega) rfl ?_
          refine zw_42 zr_0_1241 ?_
          exact zw_less (L := [(6, 0), (2, 0), (2, 69), (0, (i2 + 6))]) ⟨Or.inr rfl, Or.inr rfl, Or.inr rfl, Or.inr rfl, trivial⟩ (ihlp18_4 ((i2 + 6)) m239 hIm239 hFm239   (by omega) (by omega) (by assumption) (by omega))
        by_cases h243 : x9 = 18
        · refine zw_111 (t := 790) zr_0_33 (by rw [h243]; rfl) ?_
          refine zw_7 zr_0_790 rfl ?_
          refine zw_7s zr_0_791 rfl ?_
          refine zw_3 zr_0_792 rfl ?_
          refine zw_push zr_0_793 ?_
          refine zw_16 zr_0_794 (by omega) ?_
          refine zw_100 zr_0_795 rfl (by omega) (by omega) ?_
          intro x244 ex244 hx244a hx244b
          refine zw_C zr_0_796 (Or.inl rfl) zm_120 rfl rfl ⟨Nat.le_of_ble_eq_true rfl, Nat.le_of_ble_eq_true rfl, Nat.le_of_ble_eq_true rfl, rfl, by decide⟩ (by omega) (th_120 (d := d - 1) (by omega) hIm3 (a0 := x244)      (by omega) ) ?_
          rintro _ m245 ⟨r246, rfl, hr246a, hr246b, hIm245, gm245⟩
          have hFm245 : zFr W_0 m0 m245 := hFm3.trans gm245 rfl
          show zW E (d) 0 799 [(6, 0), (2, 0), (2, 69), (0, i2)] [(0, r246)] m245 Q
          refine zw_115 zr_0_799 rfl ?_
          refine zw_7 zr_0_800 rfl ?_
          refine zw_7s zr_0_801 rfl ?_
          refine zw_3 zr_0_802 rfl ?_
          refine zw_push zr_0_803 ?_
          refine zw_16 zr_0_804 (by omega) ?_
          refine zw_100k zr_0_805 rfl (by omega) (by omega) ex244.symm ?_
          refine zw_C zr_0_806 (Or.inl rfl) zm_190 rfl rfl ⟨Nat.le_of_ble_eq_true rfl, Nat.le_of_ble_eq_true rfl, Nat.le_of_ble_eq_true rfl, rfl, by decide⟩ (by omega) (th_190 (d := d - 1) (by omega) hIm245 (a0 := x244)      (by omega) ) ?_
          rintro _ m247 ⟨r248, rfl, hr248a, hr248b, hIm247, gm247⟩
          have hFm247 : zFr W_0 m0 m247 := hFm245.trans gm247 rfl
          show zW E (d) 0 809 [(6, 0), (2, 0), (2, 69), (0, i2)] [(0, r248)] m247 Q
          have hkz249_0 := zk_fr hv0lp18_4 gm245
          have hkz249_1 := zk_fr hkz249_0 gm247
          refine zw_115 zr_0_809 rfl ?_
          refine zw_42 zr_0_810 ?_
          refine zw_15 (c := 6) (L' := [(6, 0), (2, 0), (2, 69), (0, (i2 + 6))]) zr_0_1238 rfl (by decide) (by omega) rfl ?_
          refine zw_42 zr_0_1241 ?_
          exact zw_less (L := [(6, 0), (2, 0), (2, 69), (0, (i2 + 6))]) ⟨Or.inr rfl, Or.inr rfl, Or.inr rfl, Or.inr rfl, trivial⟩ (ihlp18_4 ((i2 + 6)) m247 hIm247 hFm247   (by omega) (by omega) (by assumption) (by omega))
        by_cases h251 : x9 = 19
        · refine zw_111 (t := 813) zr_0_33 (by rw [h251]; rfl) ?_
          refine zw_7 zr_0_813 rfl ?_
          refine zw_7s zr_0_814 rfl ?_
          refine zw_3 zr_0_815 rfl ?_
          refine zw_push zr_0_816 ?_
          refine zw_16 zr_0_817 (by omega) ?_
          refine zw_100 zr_0_818 rfl (by omega) (by omega) ?_
          intro x252 ex252 hx252a hx252b
          refine zw_7s zr_0_819 rfl ?_
          refine zw_3 zr_0_820 rfl ?_
          refine zw_push zr_0_821 ?_
          refine zw_16 zr_0_822 (by omega) ?_
          refine zw_100 zr_0_823 rfl (by omega) (by omega) ?_
          intro x253 ex253 hx253a hx253b
          refine zw_7s zr_0_824 rfl ?_
          refine zw_3 zr_0_825 rfl ?_
          refine zw_push zr_0_826 ?_
          refine zw_16 zr_0_827 (by omega) ?_
          refine zw_100 zr_0_828 rfl (by omega) (by omega) ?_
          intro x254 ex254 hx254a hx254b
          refine zw_C zr_0_829 (Or.inl rfl) zm_121 rfl rfl ⟨Nat.le_of_ble_eq_true rfl, Nat.le_of_ble_eq_true rfl, Nat.le_of_ble_eq_true rfl, rfl, by decide⟩ (by omega) (th_121 (d := d - 1) (by omega) hIm3 (a0 := x252) (a1 := x253) (a2 := x254)      (by omega) (by omega) (by omega) ) ?_
          rintro _ m255 ⟨r256, rfl, hr256a, hr256b, hIm255, gm255⟩
          have hFm255 : zFr W_0 m0 m255 := hFm3.trans gm255 rfl
          show zW E (d) 0 832 [(6, 0), (2, 0), (2, 69), (0, i2)] [(0, r256)] m255 Q
          refine zw_115 zr_0_832 rfl ?_
          refine zw_7 zr_0_833 rfl ?_
          refine zw_7s zr_0_834 rfl ?_
          refine zw_3 zr_0_835 rfl ?_
          refine zw_push zr_0_836 ?_
          refine zw_16 zr_0_837 (by omega) ?_
          refine zw_100k zr_0_838 rfl (by omega) (by omega) ex252.symm ?_
          refine zw_7s zr_0_839 rfl ?_
          refine zw_3 zr_0_840 rfl ?_
          refine zw_push zr_0_841 ?_
          refine zw_16 zr_0_842 (by omega) ?_
          refine zw_100k zr_0_843 rfl (by omega) (by omega) ex253.symm ?_
          refine zw_7s zr_0_844 rfl ?_
          refine zw_3 zr_0_845 rfl ?_
          refine zw_push zr_0_846 ?_
          refine zw_16 zr_0_847 (by omega) ?_
          refine zw_100k zr_0_848 rfl (by omega) (by omega) ex254.symm ?_
          refine zw_C zr_0_849 (Or.inl rfl) zm_191 rfl rfl ⟨Nat.le_of_ble_eq_true rfl, Nat.le_of_ble_eq_true rfl, Nat.le_of_ble_eq_true rfl, rfl, by decide⟩ (by omega) (th_191 (d := d - 1) (by omega) hIm255 (a0 := x252) (a1 := x253) (a2 := x254)      (by omega) (by omega) (by omega) ) ?_
          rintro _ m257 ⟨r258, rfl, hr258a, hr258b, hIm257, gm257⟩
          have hFm257 : zFr W_0 m0 m257 := hFm255.trans gm257 rfl
          show zW E (d) 0 852 [(6, 0), (2, 0), (2, 69), (0, i2)] [(0, r258)] m257 Q
          have hkz259_0 := zk_fr hv0lp18_4 gm255
          have hkz259_1 := zk_fr hkz259_0 gm257
          refine zw_115 zr_0_852 rfl ?_
          refine zw_42 zr_0_853 ?_
          refine zw_15 (c := 6) (L' := [(6, 0), (2, 0), (2, 69), (0, (i2 + 6))]) zr_0_1238 rfl (by decide) (by omega) rfl ?_
          refine zw_42 zr_0_1241 ?_
          exact zw_less (L := [(6, 0), (2, 0), (2, 69), (0, (i2 + 6))]) ⟨Or.inr rfl, Or.inr rfl, Or.inr rfl, Or.inr rfl, trivial⟩ (ihlp18_4 ((i2 + 6)) m257 hIm257 hFm257   (by omega) (by omega) (by assumption) (by omega))
        by_cases h261 : x9 = 20
        · refine zw_111 (t := 856) zr_0_33 (by rw [h261]; rfl) ?_
          refine zw_7 zr_0_856 rfl ?_
          refine zw_C zr_0_857 (Or.inl rfl) zm_122 rfl rfl ⟨Nat.le_of_ble_eq_true rfl, Nat.le_of_ble_eq_true rfl, Nat.le_of_ble_eq_true rfl, rfl, by decide⟩ (by omega) (th_122 (d := d - 1) (by omega) hIm3        ) ?_
          rintro _ m262 ⟨r263, rfl, hr263a, hr263b, hIm262, gm262⟩
          have hFm262 : zFr W_0 m0 m262 := hFm3.trans gm262 rfl
          show zW E (d) 0 860 [(6, 0), (2, 0), (2, 69), (0, i2)] [(1, r263)] m262 Q
          refine zw_116 zr_0_860 rfl ?_
          refine zw_7 zr_0_861 rfl ?_
          refine zw_C zr_0_862 (Or.inl rfl) zm_192 rfl rfl ⟨Nat.le_of_ble_eq_true rfl, Nat.le_of_ble_eq_true rfl, Nat.le_of_ble_eq_true rfl, rfl, by decide⟩ (by omega) (th_192 (d := d - 1) (by omega) hIm262        ) ?_
          rintro _ m264 ⟨r265, rfl, hr265a, hr265b, hIm264, gm264⟩
          have hFm264 : zFr W_0 m0 m264 := hFm262.trans gm264 rfl
          show zW E (d) 0 865 [(6, 0), (2, 0), (2, 69), (0, i2)] [(1, r265)] m264 Q
          have hkz266_0 := zk_fr hv0lp18_4 gm262
          have hkz266_1 := zk_fr hkz266_0 gm264
          refine zw_116 zr_0_865 rfl ?_
          refine zw_42 zr_0_866 ?_
          refine zw_15 (c := 6) (L' := [(6, 0), (2, 0), (2, 69), (0, (i2 + 6))]) zr_0_1238 rfl (by decide) (by omega) rfl ?_
          refine zw_42 zr_0_1241 ?_
          exact zw_less (L := [(6, 0), (2, 0), (2, 69), (0, (i2 + 6))]) ⟨Or.inr rfl, Or.inr rfl, Or.inr rfl, Or.inr rfl, trivial⟩ (ihlp18_4 ((i2 + 6)) m264 hIm264 hFm264   (by omega) (by omega) (by assumption) (by omega))
        by_cases h268 : x9 = 21
        · refine zw_111 (t := 869) zr_0_33 (by rw [h268]; rfl) ?_
          refine zw_7 zr_0_869 rfl ?_
          refine zw_7s zr_0_870 rfl ?_
          refine zw_3 zr_0_871 rfl ?_
          refine zw_push zr_0_872 ?_
          refine zw_16 zr_0_873 (by omega) ?_
          refine zw_100 zr_0_874 rfl (by omega) (by omega) ?_
          intro x269 ex269 hx269a hx269b
          refine zw_7s zr_0_875 rfl ?_
          refine zw_3 zr_0_876 rfl ?_
          refine zw_push zr_0_877 ?_
          refine zw_16 zr_0_878 (by omega) ?_
          refine zw_100 zr_0_879 rfl (by omega) (by omega) ?_
          intro x270 ex270 hx270a hx270b
          refine zw_7s zr_0_880 rfl ?_
          refine zw_3 zr_0_881 rfl ?_
          refine zw_push zr_0_882 ?_
          refine zw_16 zr_0_883 (by omega) ?_
          refine zw_100 zr_0_884 rfl (by omega) (by omega) ?_
          intro x271 ex271 hx271a hx271b
          refine zw_C zr_0_885 (Or.inl rfl) zm_123 rfl rfl ⟨Nat.le_of_ble_eq_true rfl, Nat.le_of_ble_eq_true rfl, Nat.le_of_ble_eq_true rfl, rfl, by decide⟩ (by omega) (th_123 (d := d - 1) (by omega) hIm3 (a0 := x269) (a1 := x270) (a2 := x271)      (by omega) (by omega) (by omega) ) ?_
          rintro _ m272 ⟨r273, rfl, hr273a, hr273b, hIm272, gm272⟩
          have hFm272 : zFr W_0 m0 m272 := hFm3.trans gm272 rfl
          show zW E (d) 0 888 [(6, 0), (2, 0), (2, 69), (0, i2)] [(0, r273)] m272 Q
          refine zw_115 zr_0_888 rfl ?_
          refine zw_7 zr_0_889 rfl ?_
          refine zw_7s zr_0_890 rfl ?_
          refine zw_3 zr_0_891 rfl ?_
          refine zw_push zr_0_892 ?_
          refine zw_16 zr_0_893 (by omega) ?_
          refine zw_100k zr_0_894 rfl (by omega) (by omega) ex269.symm ?_
          refine zw_7s zr_0_895 rfl ?_
          refine zw_3 zr_0_896 rfl ?_
          refine zw_push zr_0_897 ?_
          refine zw_16 zr_0_898 (by omega) ?_
          refine zw_100k zr_0_899 rfl (by omega) (by omega) ex270.symm ?_
          refine zw_7s zr_0_900 rfl ?_
          refine zw_3 zr_0_901 rfl ?_
          refine zw_push zr_0_902 ?_
          refine zw_16 zr_0_903 (by omega) ?_
          refine zw_100k zr_0_904 rfl (by omega) (by omega) ex271.symm ?_
          refine zw_C zr_0_905 (Or.inl rfl) zm_196 rfl rfl ⟨Nat.le_of_ble_eq_true rfl, Nat.le_of_ble_eq_true rfl, Nat.le_of_ble_eq_true rfl, rfl, by decide⟩ (by omega) (th_196 (d := d - 1) (by omega) hIm272 (a0 := x269) (a1 := x270) (a2 := x271)      (by omega) (by omega) (by omega) ) ?_
          rintro _ m274 ⟨r275, rfl, hr275a, hr275b, hIm274, gm274⟩
          have hFm274 : zFr W_0 m0 m274 := hFm272.trans gm274 rfl
          show zW E (d) 0 908 [(6, 0), (2, 0), (2, 69), (0, i2)] [(0, r275)] m274 Q
          have hkz276_0 := zk_fr hv0lp18_4 gm272
          have hkz276_1 := zk_fr hkz276_0 gm274
          refine zw_115 zr_0_908 rfl ?_
          refine zw_42 zr_0_909 ?_
          refine zw_15 (c := 6) (L' := [(6, 0), (2, 0), (2, 69), (0, (i2 + 6))]) zr_0_1238 rfl (by decide) (by omega) rfl ?_
          refine zw_42 zr_0_1241 ?_
          exact zw_less (L := [(6, 0), (2, 0), (2, 69), (0, (i2 + 6))]) ⟨Or.inr rfl, Or.inr rfl, Or.inr rfl, Or.inr rfl, trivial⟩ (ihlp18_4 ((i2 + 6)) m274 hIm274 hFm274   (by omega) (by omega) (by assumption) (by omega))
        by_cases h278 : x9 = 22
        · refine zw_111 (t := 912) zr_0_33 (by rw [h278]; rfl) ?_
          refine zw_7 zr_0_912 rfl ?_
          refine zw_C zr_0_913 (Or.inl rfl) zm_124 rfl rfl ⟨Nat.le_of_ble_eq_true rfl, Nat.le_of_ble_eq_true rfl, Nat.le_of_ble_eq_true rfl, rfl, by decide⟩ (by omega) (th_124 (d := d - 1) (by omega) hIm3        ) ?_
          rintro _ m279 ⟨r280, rfl, hr280a, hr280b, hIm279, gm279⟩
          have hFm279 : zFr W_0 m0 m279 := hFm3.trans gm279 rfl
          show zW E (d) 0 916 [(6, 0), (2, 0), (2, 69), (0, i2)] [(0, r280)] m279 Q
          refine zw_115 zr_0_916 rfl ?_
          refine zw_7 zr_0_917 rfl ?_
          refine zw_C zr_0_918 (Or.inl rfl) zm_198 rfl rfl ⟨Nat.le_of_ble_eq_true rfl, Nat.le_of_ble_eq_true rfl, Nat.le_of_ble_eq_true rfl, rfl, by decide⟩ (by omega) (th_198 (d := d - 1) (by omega) hIm279        ) ?_
          rintro _ _ ⟨r281, rfl, hr281a, hr281b, rfl⟩
          show zW E (d) 0 921 [(6, 0), (2, 0), (2, 69), (0, i2)] [(0, r281)] m279 Q
          have hkz282_0 := zk_fr hv0lp18_4 gm279
          refine zw_115 zr_0_921 rfl ?_
          refine zw_42 zr_0_922 ?_
          refine zw_15 (c := 6) (L' := [(6, 0), (2, 0), (2, 69), (0, (i2 + 6))]) zr_0_1238 rfl (by decide) (by omega) rfl ?_
          refine zw_42 zr_0_1241 ?_
          exact zw_less (L := [(6, 0), (2, 0), (2, 69), (0, (i2 + 6))]) ⟨Or.inr rfl, Or.inr rfl, Or.inr rfl, Or.inr rfl, trivial⟩ (ihlp18_4 ((i2 + 6)) m279 hIm279 hFm279   (by omega) (by omega) (by assumption) (by omega))
        by_cases h284 : x9 = 23
        · refine zw_111 (t := 925) zr_0_33 (by rw [h284]; rfl) ?_
          refine zw_7 zr_0_925 rfl ?_
          refine zw_7s zr_0_926 rfl ?_
          refine zw_3 zr_0_927 rfl ?_
          refine zw_push zr_0_928 ?_
          refine zw_16 zr_0_929 (by omega) ?_
          refine zw_100 zr_0_930 rfl (by omega) (by omega) ?_
          intro x285 ex285 hx285a hx285b
          refine zw_C zr_0_931 (Or.inl rfl) zm_125 rfl rfl ⟨Nat.le_of_ble_eq_true rfl, Nat.le_of_ble_eq_true rfl, Nat.le_of_ble_eq_true rfl, rfl, by decide⟩ (by omega) (th_125 (d := d - 1) (by omega) hIm3 (a0 := x285)      (by omega) ) ?_
          rintro _ m286 ⟨r287, rfl, hr287a, hr287b, hIm286, gm286⟩
          have hFm286 : zFr W_0 m0 m286 := hFm3.trans gm286 rfl
          show zW E (d) 0 934 [(6, 0), (2, 0), (2, 69), (0, i2)] [(0, r287)] m286 Q
          refine zw_115 zr_0_934 rfl ?_
          refine zw_7 zr_0_935 rfl ?_
          refine zw_7s zr_0_936 rfl ?_
          refine zw_3 zr_0_937 rfl ?_
          refine zw_push zr_0_938 ?_
          refine zw_16 zr_0_939 (by omega) ?_
          refine zw_100k zr_0_940 rfl (by omega) (by omega) ex285.symm ?_
          refine zw_C zr_0_941 (Or.inl rfl) zm_199 rfl rfl ⟨Nat.le_of_ble_eq_true rfl, Nat.le_of_ble_eq_true rfl, Nat.le_of_ble_eq_true rfl, rfl, by decide⟩ (by omega) (th_199 (d := d - 1) (by omega) hIm286 (a0 := x285)      (by omega) ) ?_
          rintro _ m288 ⟨r289, rfl, hr289a, hr289b, hIm288, gm288⟩
          have hFm288 : zFr W_0 m0 m288 := hFm286.trans gm288 rfl
          show zW E (d) 0 944 [(6, 0), (2, 0), (2, 69), (0, i2)] [(0, r289)] m288 Q
          have hkz290_0 := zk_fr hv0lp18_4 gm286
          have hkz290_1 := zk_fr hkz290_0 gm288
          refine zw_115 zr_0_944 rfl ?_
          refine zw_42 zr_0_945 ?_
          refine zw_15 (c := 6) (L' := [(6, 0), (2, 0), (2, 69), (0, (i2 + 6))]) zr_0_1238 rfl (by decide) (by omega) rfl ?_
          refine zw_42 zr_0_1241 ?_
          exact zw_less (L := [(6, 0), (2, 0), (2, 69), (0, (i2 + 6))]) ⟨Or.inr rfl, Or.inr rfl, Or.inr rfl, Or.inr rfl, trivial⟩ (ihlp18_4 ((i2 + 6)) m288 hIm288 hFm288   (by omega) (by omega) (by assumption) (by omega))
        by_cases h292 : x9 = 24
        · refine zw_111 (t := 948) zr_0_33 (by rw [h292]; rfl) ?_
          refine zw_7 zr_0_948 rfl ?_
          refine zw_7s zr_0_949 rfl ?_
          refine zw_3 zr_0_950 rfl ?_
          refine zw_push zr_0_951 ?_
          refine zw_16 zr_0_952 (by omega) ?_
          refine zw_100 zr_0_953 rfl (by omega) (by omega) ?_
          intro x293 ex293 hx293a hx293b
          refine zw_7s zr_0_954 rfl ?_
          refine zw_3 zr_0_955 rfl ?_
          refine zw_push zr_0_956 ?_
          refine zw_16 zr_0_957 (by omega) ?_
          refine zw_100 zr_0_958 rfl (by omega) (by omega) ?_
          intro x294 ex294 hx294a hx294b
          refine zw_7s zr_0_959 rfl ?_
          refine zw_3 zr_0_960 rfl ?_
          refine zw_push zr_0_961 ?_
          refine zw_16 zr_0_962 (by omega) ?_
          refine zw_100 zr_0_963 rfl (by omega) (by omega) ?_
          intro x295 ex295 hx295a hx295b
          refine zw_7s zr_0_964 rfl ?_
          refine zw_3 zr_0_965 rfl ?_
          refine zw_push zr_0_966 ?_
          refine zw_16 zr_0_967 (by omega) ?_
          refine zw_100 zr_0_968 rfl (by omega) (by omega) ?_
          intro x296 ex296 hx296a hx296b
          obtain ⟨f297, ef297⟩ : ∃ v, m3 1 0 = v := ⟨_, rfl⟩
          have bf297 := ib_1_0 hIm3
          rw [ef297] at bf297
          refine zw_C zr_0_969 (Or.inl rfl) zm_126 rfl rfl ⟨Nat.le_of_ble_eq_true rfl, Nat.le_of_ble_eq_true rfl, Nat.le_of_ble_eq_true rfl, rfl, by decide⟩ (by omega) (th_126 (d := d - 1) (by omega) hIm3 (a0 := x293) (a1 := x294) (a2 := x295) (a3 := x296) (g0 := f297)  (F6 := m3 6) (F7 := m3 7) ef297 rfl rfl (by omega) (by omega) (by omega) (by omega) ) ?_
          rintro _ m298 ⟨r299, rfl, hr299a, hr299b, hIm298, gm298, po0_r299⟩
          have hFm298 : zFr W_0 m0 m298 := hFm3.trans gm298 rfl
          have km298_1_0 : m298 1 0 = f297 := (gm298 1 0 rfl).trans ef297
          show zW E (d) 0 972 [(6, 0), (2, 0), (2, 69), (0, i2)] [(0, r299)] m298 Q
          refine zw_115 zr_0_972 rfl ?_
          refine zw_7 zr_0_973 rfl ?_
          refine zw_7s zr_0_974 rfl ?_
          refine zw_3 zr_0_975 rfl ?_
          refine zw_push zr_0_976 ?_
          refine zw_16 zr_0_977 (by omega) ?_
          refine zw_100k zr_0_978 rfl (by omega) (by omega) ex293.symm ?_
          refine zw_7s zr_0_979 rfl ?_
          refine zw_3 zr_0_980 rfl ?_
          refine zw_push zr_0_981 ?_
          refine zw_16 zr_0_982 (by omega) ?_
          refine zw_100k zr_0_983 rfl (by omega) (by omega) ex294.symm ?_
          refine zw_7s zr_0_984 rfl ?_
          refine zw_3 zr_0_985 rfl ?_
          refine zw_push zr_0_986 ?_
          refine zw_16 zr_0_987 (by omega) ?_
          refine zw_100k zr_0_988 rfl (by omega) (by omega) ex295.symm ?_
          refine zw_7s zr_0_989 rfl ?_
          refine zw_3 zr_0_990 rfl ?_
          refine zw_push zr_0_991 ?_
          refine zw_16 zr_0_992 (by omega) ?_
          refine zw_100k zr_0_993 rfl (by omega) (by omega) ex296.symm ?_
          obtain ⟨f300, ef300⟩ : ∃ v, m298 70 822 = v := ⟨_, rfl⟩
          have bf300 : 0 ≤ m298 70 822 ∧ m298 70 822 ≤ 10 := ib_70_players hIm298 (by omega)
          rw [ef300] at bf300
          refine zw_C zr_0_994 (Or.inl rfl) zm_202 rfl rfl ⟨Nat.le_of_ble_eq_true rfl, Nat.le_of_ble_eq_true rfl, Nat.le_of_ble_eq_true rfl, rfl, by decide⟩ (by omega) (th_202 (d := d - 1) (by omega) hIm298 (a0 := x293) (a1 := x294) (a2 := x295) (a3 := x296) (g0 := f300)  (F70 := m298 70) ef300 rfl (by omega) (by omega) (by omega) (by omega) ) ?_
          rintro _ m301 ⟨r302, rfl, hr302a, hr302b, hIm301, gm301, po0_r302⟩
          have hFm301 : zFr W_0 m0 m301 := hFm298.trans gm301 rfl
          have km301_1_0 : m301 1 0 = f297 := (gm301 1 0 rfl).trans km298_1_0
          have km301_70_822 : m301 70 822 = f300 := (gm301 70 822 rfl).trans ef300
          show zW E (d) 0 997 [(6, 0), (2, 0), (2, 69), (0, i2)] [(0, r302)] m301 Q
          have hkz303_0 := zk_fr hv0lp18_4 gm298
          have hkz303_1 := zk_fr hkz303_0 gm301
          have hqz304 := zq_even hIm3 hv0lp18_4 gm298 ef297 po0_r299 ef300 po0_r302
          refine zw_115 zr_0_997 rfl ?_
          refine zw_42 zr_0_998 ?_
          refine zw_15 (c := 6) (L' := [(6, 0), (2, 0), (2, 69), (0, (i2 + 6))]) zr_0_1238 rfl (by decide) (by omega) rfl ?_
          refine zw_42 zr_0_1241 ?_
          exact zw_less (L := [(6, 0), (2, 0), (2, 69), (0, (i2 + 6))]) ⟨Or.inr rfl, Or.inr rfl, Or.inr rfl, Or.inr rfl, trivial⟩ (ihlp18_4 ((i2 + 6)) m301 hIm301 hFm301   (by omega) (by omega) (by assumption) (by omega))
        by_cases h306 : x9 = 25
        · refine zw_111 (t := 1001) zr_0_33 (by rw [h306]; rfl) ?_
          refine zw_7 zr_0_1001 rfl ?_
          refine zw_C zr_0_1002 (Or.inl rfl) zm_127 rfl rfl ⟨Nat.le_of_ble_eq_true rfl, Nat.le_of_ble_eq_true rfl, Nat.le_of_ble_eq_true rfl, rfl, by decide⟩ (by omega) (th_127 (d := d - 1) (by omega) hIm3        ) ?_
          rintro _ _ ⟨r307, rfl, hr307a, hr307b, rfl⟩
          show zW E (d) 0 1005 [(6, 0), (2, 0), (2, 69), (0, i2)] [(0, r307)] m3 Q
          refine zw_115 zr_0_1005 rfl ?_
          refine zw_7 zr_0_1006 rfl ?_
          refine zw_C zr_0_1007 (Or.inl rfl) zm_203 rfl rfl ⟨Nat.le_of_ble_eq_true rfl, Nat.le_of_ble_eq_true rfl, Nat.le_of_ble_eq_true rfl, rfl, by decide⟩ (by omega) (th_203 (d := d - 1) (by omega) hIm3        ) ?_
          rintro _ _ ⟨r308, rfl, hr308a, hr308b, rfl⟩
          show zW E (d) 0 1010 [(6, 0), (2, 0), (2, 69), (0, i2)] [(0, r308)] m3 Q
          refine zw_115 zr_0_1010 rfl ?_
          refine zw_42 zr_0_1011 ?_
          refine zw_15 (c := 6) (L' := [(6, 0), (2, 0), (2, 69), (0, (i2 + 6))]) zr_0_1238 rfl (by decide) (by omega) rfl ?_
          refine zw_42 zr_0_1241 ?_
          exact zw_less (L := [(6, 0), (2, 0), (2, 69), (0, (i2 + 6))]) ⟨Or.inr rfl, Or.inr rfl, Or.inr rfl, Or.inr rfl, trivial⟩ (ihlp18_4 ((i2 + 6)) m3 hIm3 hFm3   (by omega) (by omega) (by assumption) (by omega))
        by_cases h311 : x9 = 26
        · refine zw_111 (t := 1014) zr_0_33 (by rw [h311]; rfl) ?_
          refine zw_7 zr_0_1014 rfl ?_
          refine zw_7s zr_0_1015 rfl ?_
          refine zw_3 zr_0_1016 rfl ?_
          refine zw_push zr_0_1017 ?_
          refine zw_16 zr_0_1018 (by omega) ?_
          refine zw_100 zr_0_1019 rfl (by omega) (by omega) ?_
          intro x312 ex312 hx312a hx312b
          refine zw_7s zr_0_1020 rfl ?_
          refine zw_3 zr_0_1021 rfl ?_
          refine zw_push zr_0_1022 ?_
          refine zw_16 zr_0_1023 (by omega) ?_
          refine zw_100 zr_0_1024 rfl (by omega) (by omega) ?_
          intro x313 ex313 hx313a hx313b
          refine zw_7s zr_0_1025 rfl ?_
          refine zw_3 zr_0_1026 rfl ?_
          refine zw_push zr_0_1027 ?_
          refine zw_16 zr_0_1028 (by omega) ?_
          refine zw_100 zr_0_1029 rfl (by omega) (by omega) ?_
          intro x314 ex314 hx314a hx314b
          refine zw_7s zr_0_1030 rfl ?_
          refine zw_3 zr_0_1031 rfl ?_
          refine zw_push zr_0_1032 ?_
          refine zw_16 zr_0_1033 (by omega) ?_
          refine zw_100 zr_0_1034 rfl (by omega) (by omega) ?_
          intro x315 ex315 hx315a hx315b
          obtain ⟨f316, ef316⟩ : ∃ v, m3 1 0 = v := ⟨_, rfl⟩
          have bf316 := ib_1_0 hIm3
          rw [ef316] at bf316
          refine zw_C zr_0_1035 (Or.inl rfl) zm_129 rfl rfl ⟨Nat.le_of_ble_eq_true rfl, Nat.le_of_ble_eq_true rfl, Nat.le_of_ble_eq_true rfl, rfl, by decide⟩ (by omega) (th_129 (d := d - 1) (by omega) hIm3 (a0 := x312) (a1 := x313) (a2 := x314) (a3 := x315) (g0 := f316)  (F3 := m3 3) (F4 := m3 4) ef316 rfl rfl (by omega) (by omega) (by omega) (by omega) ) ?_
          rintro _ m317 ⟨r318, rfl, hr318a, hr318b, hIm317, gm317, po0_r318, po1_r318, po2_r318⟩
          have hFm317 : zFr W_0 m0 m317 := hFm3.trans gm317 rfl
          have km317_1_0 : m317 1 0 = f316 := (gm317 1 0 rfl).trans ef316
          show zW E (d) 0 1038 [(6, 0), (2, 0), (2, 69), (0, i2)] [(0, r318)] m317 Q
          refine zw_115 zr_0_1038 rfl ?_
          refine zw_7 zr_0_1039 rfl ?_
          refine zw_7s zr_0_1040 rfl ?_
          refine zw_3 zr_0_1041 rfl ?_
          refine zw_push zr_0_1042 ?_
          refine zw_16 zr_0_1043 (by omega) ?_
          refine zw_100k zr_0_1044 rfl (by omega) (by omega) ex312.symm ?_
          refine zw_7s zr_0_1045 rfl ?_
          refine zw_3 zr_0_1046 rfl ?_
          refine zw_push zr_0_1047 ?_
          refine zw_16 zr_0_1048 (by omega) ?_
          refine zw_100k zr_0_1049 rfl (by omega) (by omega) ex313.symm ?_
          refine zw_7s zr_0_1050 rfl ?_
          refine zw_3 zr_0_1051 rfl ?_
          refine zw_push zr_0_1052 ?_
          refine zw_16 zr_0_1053 (by omega) ?_
          refine zw_100k zr_0_1054 rfl (by omega) (by omega) ex314.symm ?_
          refine zw_7s zr_0_1055 rfl ?_
          refine zw_3 zr_0_1056 rfl ?_
          refine zw_push zr_0_1057 ?_
          refine zw_16 zr_0_1058 (by omega) ?_
          refine zw_100k zr_0_1059 rfl (by omega) (by omega) ex315.symm ?_
          obtain ⟨f319, ef319⟩ : ∃ v, m317 70 822 = v := ⟨_, rfl⟩
          have bf319 : 0 ≤ m317 70 822 ∧ m317 70 822 ≤ 10 := ib_70_players hIm317 (by omega)
          rw [ef319] at bf319
          refine zw_C zr_0_1060 (Or.inl rfl) zm_204 rfl rfl ⟨Nat.le_of_ble_eq_true rfl, Nat.le_of_ble_eq_true rfl, Nat.le_of_ble_eq_true rfl, rfl, by decide⟩ (by omega) (th_204 (d := d - 1) (by omega) hIm317 (a0 := x312) (a1 := x313) (a2 := x314) (a3 := x315) (g0 := f319)  (F70 := m317 70) ef319 rfl (by omega) (by omega) (by omega) (by omega) ) ?_
          rintro _ m320 ⟨r321, rfl, hr321a, hr321b, hIm320, gm320, po0_r321, po1_r321⟩
          have hFm320 : zFr W_0 m0 m320 := hFm317.trans gm320 rfl
          have km320_1_0 : m320 1 0 = f316 := (gm320 1 0 rfl).trans km317_1_0
          show zW E (d) 0 1063 [(6, 0), (2, 0), (2, 69), (0, i2)] [(0, r321)] m320 Q
          obtain ⟨hkz322, hrz322⟩ := zk_moves hIm3 hv0lp18_4 gm317 ef316 po0_r318 po1_r318 po2_r318 gm320 ef319 po0_r321 po1_r321
          refine zw_115 zr_0_1063 rfl ?_
          refine zw_42 zr_0_1064 ?_
          refine zw_15 (c := 6) (L' := [(6, 0), (2, 0), (2, 69), (0, (i2 + 6))]) zr_0_1238 rfl (by decide) (by omega) rfl ?_
          refine zw_42 zr_0_1241 ?_
          exact zw_less (L := [(6, 0), (2, 0), (2, 69), (0, (i2 + 6))]) ⟨Or.inr rfl, Or.inr rfl, Or.inr rfl, Or.inr rfl, trivial⟩ (ihlp18_4 ((i2 + 6)) m320 hIm320 hFm320   (by omega) (by omega) (by assumption) (by omega))
        by_cases h324 : x9 = 27
        · refine zw_111 (t := 1067) zr_0_33 (by rw [h324]; rfl) ?_
          refine zw_7 zr_0_1067 rfl ?_
          refine zw_7s zr_0_1068 rfl ?_
          refine zw_3 zr_0_1069 rfl ?_
          refine zw_push zr_0_1070 ?_
          refine zw_16 zr_0_1071 (by omega) ?_
          refine zw_100 zr_0_1072 rfl (by omega) (by omega) ?_
          intro x325 ex325 hx325a hx325b
          refine zw_7s zr_0_1073 rfl ?_
          refine zw_3 zr_0_1074 rfl ?_
          refine zw_push zr_0_1075 ?_
          refine zw_16 zr_0_1076 (by omega) ?_
          refine zw_100 zr_0_1077 rfl (by omega) (by omega) ?_
          intro x326 ex326 hx326a hx326b
          refine zw_C zr_0_1078 (Or.inl rfl) zm_130 rfl rfl ⟨Nat.le_of_ble_eq_true rfl, Nat.le_of_ble_eq_true rfl, Nat.le_of_ble_eq_true rfl, rfl, by decide⟩ (by omega) (th_130 (d := d - 1) (by omega) hIm3 (a0 := x325) (a1 := x326)   (F13 := m3 13)  rfl (by omega) (by omega) ) ?_
          rintro _ m327 ⟨r328, rfl, hr328a, hr328b, hIm327, gm327, po0_r328, po1_r328⟩
          have hFm327 : zFr W_0 m0 m327 := hFm3.trans gm327 rfl
          show zW E (d) 0 1081 [(6, 0), (2, 0), (2, 69), (0, i2)] [(0, r328)] m327 Q
          refine zw_115 zr_0_1081 rfl ?_
          refine zw_7 zr_0_1082 rfl ?_
          refine zw_7s zr_0_1083 rfl ?_
          refine zw_3 zr_0_1084 rfl ?_
          refine zw_push zr_0_1085 ?_
          refine zw_16 zr_0_1086 (by omega) ?_
          refine zw_100k zr_0_1087 rfl (by omega) (by omega) ex325.symm ?_
          refine zw_7s zr_0_1088 rfl ?_
          refine zw_3 zr_0_1089 rfl ?_
          refine zw_push zr_0_1090 ?_
          refine zw_16 zr_0_1091 (by omega) ?_
          refine zw_100k zr_0_1092 rfl (by omega) (by omega) ex326.symm ?_
          refine zw_C zr_0_1093 (Or.inl rfl) zm_205 rfl rfl ⟨Nat.le_of_ble_eq_true rfl, Nat.le_of_ble_eq_true rfl, Nat.le_of_ble_eq_true rfl, rfl, by decide⟩ (by omega) (th_205 (d := d - 1) (by omega) hIm327 (a0 := x325) (a1 := x326)   (F70 := m327 70)  rfl (by omega) (by omega) ) ?_
          rintro _ m329 ⟨r330, rfl, hr330a, hr330b, hIm329, gm329, po0_r330, po1_r330⟩
          have hFm329 : zFr W_0 m0 m329 := hFm327.trans gm329 rfl
          show zW E (d) 0 1096 [(6, 0), (2, 0), (2, 69), (0, i2)] [(0, r330)] m329 Q
          obtain ⟨hkz331, hrz331⟩ := zk_weight hIm3 hv0lp18_4 gm327 po0_r328 po1_r328 gm329 po0_r330 po1_r330
          refine zw_115 zr_0_1096 rfl ?_
          refine zw_42 zr_0_1097 ?_
          refine zw_15 (c := 6) (L' := [(6, 0), (2, 0), (2, 69), (0, (i2 + 6))]) zr_0_1238 rfl (by decide) (by omega) rfl ?_
          refine zw_42 zr_0_1241 ?_
          exact zw_less (L := [(6, 0), (2, 0), (2, 69), (0, (i2 + 6))]) ⟨Or.inr rfl, Or.inr rfl, Or.inr rfl, Or.inr rfl, trivial⟩ (ihlp18_4 ((i2 + 6)) m329 hIm329 hFm329   (by omega) (by omega) (by assumption) (by omega))
        by_cases h333 : x9 = 28
        · refine zw_111 (t := 1100) zr_0_33 (by rw [h333]; rfl) ?_
          refine zw_7 zr_0_1100 rfl ?_
          refine zw_7s zr_0_1101 rfl ?_
          refine zw_3 zr_0_1102 rfl ?_
          refine zw_push zr_0_1103 ?_
          refine zw_16 zr_0_1104 (by omega) ?_
          refine zw_100 zr_0_1105 rfl (by omega) (by omega) ?_
          intro x334 ex334 hx334a hx334b
          refine zw_7s zr_0_1106 rfl ?_
          refine zw_3 zr_0_1107 rfl ?_
          refine zw_push zr_0_1108 ?_
          refine zw_16 zr_0_1109 (by omega) ?_
          refine zw_100 zr_0_1110 rfl (by omega) (by omega) ?_
          intro x335 ex335 hx335a hx335b
          obtain ⟨f336, ef336⟩ : ∃ v, m3 1 0 = v := ⟨_, rfl⟩
          have bf336 := ib_1_0 hIm3
          rw [ef336] at bf336
          refine zw_C zr_0_1111 (Or.inl rfl) zm_132 rfl rfl ⟨Nat.le_of_ble_eq_true rfl, Nat.le_of_ble_eq_true rfl, Nat.le_of_ble_eq_true rfl, rfl, by decide⟩ (by omega) (th_132 (d := d - 1) (by omega) hIm3 (a0 := x334) (a1 := x335) (g0 := f336)  (F4 := m3 4) ef336 rfl (by omega) (by omega) ) ?_
          rintro _ m337 ⟨r338, rfl, hr338a, hr338b, hIm337, gm337, po0_r338⟩
          have hFm337 : zFr W_0 m0 m337 := hFm3.trans gm337 rfl
          have km337_1_0 : m337 1 0 = f336 := (gm337 1 0 rfl).trans ef336
          show zW E (d) 0 1114 [(6, 0), (2, 0), (2, 69), (0, i2)] [(0, r338)] m337 Q
          refine zw_115 zr_0_1114 rfl ?_
          refine zw_7 zr_0_1115 rfl ?_
          refine zw_7s zr_0_1116 rfl ?_
          refine zw_3 zr_0_1117 rfl ?_
          refine zw_push zr_0_1118 ?_
          refine zw_16 zr_0_1119 (by omega) ?_
          refine zw_100k zr_0_1120 rfl (by omega) (by omega) ex334.symm ?_
          refine zw_7s zr_0_1121 rfl ?_
          refine zw_3 zr_0_1122 rfl ?_
          refine zw_push zr_0_1123 ?_
          refine zw_16 zr_0_1124 (by omega) ?_
          refine zw_100k zr_0_1125 rfl (by omega) (by omega) ex335.symm ?_
          obtain ⟨f339, ef339⟩ : ∃ v, m337 70 822 = v := ⟨_, rfl⟩
          have bf339 : 0 ≤ m337 70 822 ∧ m337 70 822 ≤ 10 := ib_70_players hIm337 (by omega)
          rw [ef339] at bf339
          refine zw_C zr_0_1126 (Or.inl rfl) zm_206 rfl rfl ⟨Nat.le_of_ble_eq_true rfl, Nat.le_of_ble_eq_true rfl, Nat.le_of_ble_eq_true rfl, rfl, by decide⟩ (by omega) (th_206 (d := d - 1) (by omega) hIm337 (a0 := x334) (a1 := x335) (g0 := f339)  (F70 := m337 70) ef339 rfl (by omega) (by omega) ) ?_
          rintro _ m340 ⟨r341, rfl, hr341a, hr341b, hIm340, gm340, po0_r341⟩
          have hFm340 : zFr W_0 m0 m340 := hFm337.trans gm340 rfl
          have km340_1_0 : m340 1 0 = f336 := (gm340 1 0 rfl).trans km337_1_0
          have km340_70_822 : m340 70 822 = f339 := (gm340 70 822 rfl).trans ef339
          show zW E (d) 0 1129 [(6, 0), (2, 0), (2, 69), (0, i2)] [(0, r341)] m340 Q
          have hkz342_0 := zk_fr hv0lp18_4 gm337
          have hkz342_1 := zk_fr hkz342_0 gm340
          have hqz343 := zq_share hIm3 hv0lp18_4 gm337 ef336 po0_r338 ef339 po0_r341
          refine zw_115 zr_0_1129 rfl ?_
          refine zw_42 zr_0_1130 ?_
          refine zw_15 (c := 6) (L' := [(6, 0), (2, 0), (2, 69), (0, (i2 + 6))]) zr_0_1238 rfl (by decide) (by omega) rfl ?_
          refine zw_42 zr_0_1241 ?_
          exact zw_less (L := [(6, 0), (2, 0), (2, 69), (0, (i2 + 6))]) ⟨Or.inr rfl, Or.inr rfl, Or.inr rfl, Or.inr rfl, trivial⟩ (ihlp18_4 ((i2 + 6)) m340 hIm340 hFm340   (by omega) (by omega) (by assumption) (by omega))
        by_cases h345 : x9 = 29
        · refine zw_111 (t := 1133) zr_0_33 (by rw [h345]; rfl) ?_
          refine zw_7 zr_0_1133 rfl ?_
          refine zw_7s zr_0_1134 rfl ?_
          refine zw_3 zr_0_1135 rfl ?_
          refine zw_push zr_0_1136 ?_
          refine zw_16 zr_0_1137 (by omega) ?_
          refine zw_100 zr_0_1138 rfl (by omega) (by omega) ?_
          intro x346 ex346 hx346a hx346b
          refine zw_C zr_0_1139 (Or.inl rfl) zm_133 rfl rfl ⟨Nat.le_of_ble_eq_true rfl, Nat.le_of_ble_eq_true rfl, Nat.le_of_ble_eq_true rfl, rfl, by decide⟩ (by omega) (th_133 (d := d - 1) (by omega) hIm3 (a0 := x346)      (by omega) ) ?_
          rintro _ _ ⟨r347, rfl, hr347a, hr347b, rfl⟩
          show zW E (d) 0 1142 [(6, 0), (2, 0), (2, 69), (0, i2)] [(1, r347)] m3 Q
          refine zw_116 zr_0_1142 rfl ?_
          refine zw_7 zr_0_1143 rfl ?_
          refine zw_7s zr_0_1144 rfl ?_
          refine zw_3 zr_0_1145 rfl ?_
          refine zw_push zr_0_1146 ?_
          refine zw_16 zr_0_1147 (by omega) ?_
          refine zw_100k zr_0_1148 rfl (by omega) (by omega) ex346.symm ?_
          refine zw_C zr_0_1149 (Or.inl rfl) zm_207 rfl rfl ⟨Nat.le_of_ble_eq_true rfl, Nat.le_of_ble_eq_true rfl, Nat.le_of_ble_eq_true rfl, rfl, by decide⟩ (by omega) (th_207 (d := d - 1) (by omega) hIm3 (a0 := x346)      (by omega) ) ?_
          rintro _ _ ⟨r348, rfl, hr348a, hr348b, rfl⟩
          show zW E (d) 0 1152 [(6, 0), (2, 0), (2, 69), (0, i2)] [(1, r348)] m3 Q
          refine zw_116 zr_0_1152 rfl ?_
          refine zw_42 zr_0_1153 ?_
          refine zw_15 (c := 6) (L' := [(6, 0), (2, 0), (2, 69), (0, (i2 + 6))]) zr_0_1238 rfl (by decide) (by omega) rfl ?_
          refine zw_42 zr_0_1241 ?_
          exact zw_less (L := [(6, 0), (2, 0), (2, 69), (0, (i2 + 6))]) ⟨Or.inr rfl, Or.inr rfl, Or.inr rfl, Or.inr rfl, trivial⟩ (ihlp18_4 ((i2 + 6)) m3 hIm3 hFm3   (by omega) (by omega) (by assumption) (by omega))
        by_cases h351 : x9 = 30
        · refine zw_111 (t := 1156) zr_0_33 (by rw [h351]; rfl) ?_
          refine zw_7 zr_0_1156 rfl ?_
          refine zw_7s zr_0_1157 rfl ?_
          refine zw_3 zr_0_1158 rfl ?_
          refine zw_push zr_0_1159 ?_
          refine zw_16 zr_0_1160 (by omega) ?_
          refine zw_100 zr_0_1161 rfl (by omega) (by omega) ?_
          intro x352 ex352 hx352a hx352b
          refine zw_C zr_0_1162 (Or.inl rfl) zm_134 rfl rfl ⟨Nat.le_of_ble_eq_true rfl, Nat.le_of_ble_eq_true rfl, Nat.le_of_ble_eq_true rfl, rfl, by decide⟩ (by omega) (th_134 (d := d - 1) (by omega) hIm3 (a0 := x352)      (by omega) ) ?_
          rintro _ m353 ⟨r354, rfl, hr354a, hr354b, hIm353, gm353, po0_r354⟩
          have hFm353 : zFr W_0 m0 m353 := hFm3.trans gm353 rfl
          show zW E (d) 0 1165 [(6, 0), (2, 0), (2, 69), (0, i2)] [(0, r354)] m353 Q
          refine zw_115 zr_0_1165 rfl ?_
          refine zw_7 zr_0_1166 rfl ?_
          refine zw_7s zr_0_1167 rfl ?_
          refine zw_3 zr_0_1168 rfl ?_
          refine zw_push zr_0_1169 ?_
          refine zw_16 zr_0_1170 (by omega) ?_
          refine zw_100k zr_0_1171 rfl (by omega) (by omega) ex352.symm ?_
          refine zw_C zr_0_1172 (Or.inl rfl) zm_208 rfl rfl ⟨Nat.le_of_ble_eq_true rfl, Nat.le_of_ble_eq_true rfl, Nat.le_of_ble_eq_true rfl, rfl, by decide⟩ (by omega) (th_208 (d := d - 1) (by omega) hIm353 (a0 := x352)   (F70 := m353 70) (F71 := m353 71) (F72 := m353 72)  rfl rfl rfl (by omega) ) ?_
          rintro _ m355 ⟨r356, rfl, hr356a, hr356b, hIm355, gm355, po0_r356⟩
          have hFm355 : zFr W_0 m0 m355 := hFm353.trans gm355 rfl
          show zW E (d) 0 1175 [(6, 0), (2, 0), (2, 69), (0, i2)] [(0, r356)] m355 Q
          obtain ⟨hkz357, hrz357⟩ := zk_image hv0lp18_4 gm353 po0_r354 gm355 po0_r356
          refine zw_115 zr_0_1175 rfl ?_
          refine zw_42 zr_0_1176 ?_
          refine zw_15 (c := 6) (L' := [(6, 0), (2, 0), (2, 69), (0, (i2 + 6))]) zr_0_1238 rfl (by decide) (by omega) rfl ?_
          refine zw_42 zr_0_1241 ?_
          exact zw_less (L := [(6, 0), (2, 0), (2, 69), (0, (i2 + 6))]) ⟨Or.inr rfl, Or.inr rfl, Or.inr rfl, Or.inr rfl, trivial⟩ (ihlp18_4 ((i2 + 6)) m355 hIm355 hFm355   (by omega) (by omega) (by assumption) (by omega))
        by_cases h359 : x9 = 31
        · refine zw_111 (t := 1179) zr_0_33 (by rw [h359]; rfl) ?_
          refine zw_7 zr_0_1179 rfl ?_
          refine zw_7s zr_0_1180 rfl ?_
          refine zw_3 zr_0_1181 rfl ?_
          refine zw_push zr_0_1182 ?_
          refine zw_16 zr_0_1183 (by omega) ?_
          refine zw_100 zr_0_1184 rfl (by omega) (by omega) ?_
          intro x360 ex360 hx360a hx360b
          refine zw_C zr_0_1185 (Or.inl rfl) zm_135 rfl rfl ⟨Nat.le_of_ble_eq_true rfl, Nat.le_of_ble_eq_true rfl, Nat.le_of_ble_eq_true rfl, rfl, by decide⟩ (by omega) (th_135 (d := d - 1) (by omega) hIm3 (a0 := x360)   (F41 := m3 41)  rfl (by omega) ) ?_
          rintro _ m361 ⟨r362, rfl, hr362a, hr362b, hIm361, gm361, po0_r362⟩
          have hFm361 : zFr W_0 m0 m361 := hFm3.trans gm361 rfl
          show zW E (d) 0 1188 [(6, 0), (2, 0), (2, 69), (0, i2)] [(0, r362)] m361 Q
          refine zw_115 zr_0_1188 rfl ?_
          refine zw_7 zr_0_1189 rfl ?_
          refine zw_7s zr_0_1190 rfl ?_
          refine zw_3 zr_0_1191 rfl ?_
          refine zw_push zr_0_1192 ?_
          refine zw_16 zr_0_1193 (by omega) ?_
          refine zw_100k zr_0_1194 rfl (by omega) (by omega) ex360.symm ?_
          refine zw_C zr_0_1195 (Or.inl rfl) zm_209 rfl rfl ⟨Nat.le_of_ble_eq_true rfl, Nat.le_of_ble_eq_true rfl, Nat.le_of_ble_eq_true rfl, rfl, by decide⟩ (by omega) (th_209 (d := d - 1) (by omega) hIm361 (a0 := x360)   (F70 := m361 70) (F71 := m361 71) (F72 := m361 72)  rfl rfl rfl (by omega) ) ?_
          rintro _ m363 ⟨r364, rfl, hr364a, hr364b, hIm363, gm363, po0_r364⟩
          have hFm363 : zFr W_0 m0 m363 := hFm361.trans gm363 rfl
          show zW E (d) 0 1198 [(6, 0), (2, 0), (2, 69), (0, i2)] [(0, r364)] m363 Q
          obtain ⟨hkz365, hrz365⟩ := zk_from hv0lp18_4 gm361 po0_r362 gm363 po0_r364
          refine zw_115 zr_0_1198 rfl ?_
          refine zw_42 zr_0_1199 ?_
          refine zw_15 (c := 6) (L' := [(6, 0), (2, 0), (2, 69), (0, (i2 + 6))]) zr_0_1238 rfl (by decide) (by omega) rfl ?_
          refine zw_42 zr_0_1241 ?_
          exact zw_less (L := [(6, 0), (2, 0), (2, 69), (0, (i2 + 6))]) ⟨Or.inr rfl, Or.inr rfl, Or.inr rfl, Or.inr rfl, trivial⟩ (ihlp18_4 ((i2 + 6)) m363 hIm363 hFm363   (by omega) (by omega) (by assumption) (by omega))
        by_cases h367 : x9 = 32
        · refine zw_111 (t := 1202) zr_0_33 (by rw [h367]; rfl) ?_
          refine zw_7 zr_0_1202 rfl ?_
          refine zw_7s zr_0_1203 rfl ?_
          refine zw_3 zr_0_1204 rfl ?_
          refine zw_push zr_0_1205 ?_
          refine zw_16 zr_0_1206 (by omega) ?_
          refine zw_100 zr_0_1207 rfl (by omega) (by omega) ?_
          intro x368 ex368 hx368a hx368b
          obtain ⟨f369, ef369⟩ : ∃ v, m3 1 0 = v := ⟨_, rfl⟩
          have bf369 := ib_1_0 hIm3
          rw [ef369] at bf369
          obtain ⟨f370, ef370⟩ : ∃ v, m3 1 1 = v := ⟨_, rfl⟩
          have bf370 := ib_1_1 hIm3
          rw [ef370] at bf370
          obtain ⟨f371, ef371⟩ : ∃ v, m3 1 2 = v := ⟨_, rfl⟩
          have bf371 := ib_1_2 hIm3
          rw [ef371] at bf371
          obtain ⟨f372, ef372⟩ : ∃ v, m3 1 3 = v := ⟨_, rfl⟩
          have bf372 := ib_1_3 hIm3
          rw [ef372] at bf372
          refine zw_C zr_0_1208 (Or.inl rfl) zm_137 rfl rfl ⟨Nat.le_of_ble_eq_true rfl, Nat.le_of_ble_eq_true rfl, Nat.le_of_ble_eq_true rfl, rfl, by decide⟩ (by omega) (th_137 (d := d - 1) (by omega) hIm3 (a0 := x368) (g0 := f369) (g1 := f370) (g2 := f371) (g3 := f372)   ef369 ef370 ef371 ef372  (by omega) ) ?_
          rintro _ _ ⟨r373, rfl, hr373a, hr373b, rfl, po0_r373⟩
          show zW E (d) 0 1211 [(6, 0), (2, 0), (2, 69), (0, i2)] [(0, r373)] m3 Q
          refine zw_115 zr_0_1211 rfl ?_
          refine zw_7 zr_0_1212 rfl ?_
          refine zw_7s zr_0_1213 rfl ?_
          refine zw_3 zr_0_1214 rfl ?_
          refine zw_push zr_0_1215 ?_
          refine zw_16 zr_0_1216 (by omega) ?_
          refine zw_100k zr_0_1217 rfl (by omega) (by omega) ex368.symm ?_
          obtain ⟨f374, ef374⟩ : ∃ v, m3 70 822 = v := ⟨_, rfl⟩
          have bf374 : 0 ≤ m3 70 822 ∧ m3 70 822 ≤ 10 := ib_70_players hIm3 (by omega)
          rw [ef374] at bf374
          obtain ⟨f375, ef375⟩ : ∃ v, m3 70 823 = v := ⟨_, rfl⟩
          have bf375 : 0 ≤ m3 70 823 ∧ m3 70 823 ≤ 60 := ib_70_meetings hIm3 (by omega)
          rw [ef375] at bf375
          refine zw_C zr_0_1218 (Or.inl rfl) zm_210 rfl rfl ⟨Nat.le_of_ble_eq_true rfl, Nat.le_of_ble_eq_true rfl, Nat.le_of_ble_eq_true rfl, rfl, by decide⟩ (by omega) (th_210 (d := d - 1) (by omega) hIm3 (a0 := x368) (g0 := f374) (g1 := f375)  (F70 := m3 70) ef374 ef375 rfl (by omega) ) ?_
          rintro _ _ ⟨r376, rfl, hr376a, hr376b, rfl, po0_r376⟩
          show zW E (d) 0 1221 [(6, 0), (2, 0), (2, 69), (0, i2)] [(0, r376)] m3 Q
          have hqz378 := zq_count hIm3 hv0lp18_4 (zFr.rfl (W := [])) ef369 ef370 ef371 ef372 po0_r373 ef374 ef375 po0_r376
          refine zw_115 zr_0_1221 rfl ?_
          refine zw_42 zr_0_1222 ?_
          refine zw_15 (c := 6) (L' := [(6, 0), (2, 0), (2, 69), (0, (i2 + 6))]) zr_0_1238 rfl (by decide) (by omega) rfl ?_
          refine zw_42 zr_0_1241 ?_
          exact zw_less (L := [(6, 0), (2, 0), (2, 69), (0, (i2 + 6))]) ⟨Or.inr rfl, Or.inr rfl, Or.inr rfl, Or.inr rfl, trivial⟩ (ihlp18_4 ((i2 + 6)) m3 hIm3 hFm3   (by omega) (by omega) (by assumption) (by omega))
        by_cases h380 : x9 = 33
        · refine zw_111 (t := 1225) zr_0_33 (by rw [h380]; rfl) ?_
          refine zw_7 zr_0_1225 rfl ?_
          refine zw_C zr_0_1226 (Or.inl rfl) zm_138 rfl rfl ⟨Nat.le_of_ble_eq_true rfl, Nat.le_of_ble_eq_true rfl, Nat.le_of_ble_eq_true rfl, rfl, by decide⟩ (by omega) (th_138 (d := d - 1) (by omega) hIm3        ) ?_
          rintro _ _ ⟨r381, rfl, hr381a, hr381b, rfl⟩
          show zW E (d) 0 1229 [(6, 0), (2, 0), (2, 69), (0, i2)] [(1, r381)] m3 Q
          refine zw_116 zr_0_1229 rfl ?_
          refine zw_7 zr_0_1230 rfl ?_
          refine zw_C zr_0_1231 (Or.inl rfl) zm_212 rfl rfl ⟨Nat.le_of_ble_eq_true rfl, Nat.le_of_ble_eq_true rfl, Nat.le_of_ble_eq_true rfl, rfl, by decide⟩ (by omega) (th_212 (d := d - 1) (by omega) hIm3        ) ?_
          rintro _ _ ⟨r382, rfl, hr382a, hr382b, rfl⟩
          show zW E (d) 0 1234 [(6, 0), (2, 0), (2, 69), (0, i2)] [(1, r382)] m3 Q
          refine zw_116 zr_0_1234 rfl ?_
          refine zw_42 zr_0_1235 ?_
          refine zw_15 (c := 6) (L' := [(6, 0), (2, 0), (2, 69), (0, (i2 + 6))]) zr_0_1238 rfl (by decide) (by omega) rfl ?_
          refine zw_42 zr_0_1241 ?_
          exact zw_less (L := [(6, 0), (2, 0), (2, 69), (0, (i2 + 6))]) ⟨Or.inr rfl, Or.inr rfl, Or.inr rfl, Or.inr rfl, trivial⟩ (ihlp18_4 ((i2 + 6)) m3 hIm3 hFm3   (by omega) (by omega) (by assumption) (by omega))
        refine zw_111d (t := 1238) zr_0_33 (by omega) rfl ?_
        refine zw_15 (c := 6) (L' := [(6, 0), (2, 0), (2, 69), (0, (i2 + 6))]) zr_0_1238 rfl (by decide) (by omega) rfl ?_
        refine zw_42 zr_0_1241 ?_
        exact zw_less (L := [(6, 0), (2, 0), (2, 69), (0, (i2 + 6))]) ⟨Or.inr rfl, Or.inr rfl, Or.inr rfl, Or.inr rfl, trivial⟩ (ihlp18_4 ((i2 + 6)) m3 hIm3 hFm3   (by omega) (by omega) (by assumption) (by omega))
  exact lp18_4 _ (0) m0 hI0 hF0   (by omega) (by omega) (hK0) (Nat.lt_succ_self _)
