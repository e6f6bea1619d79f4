abbrev W_0 : List (Nat × Nat) := [(1, 0), (1, 1), (1, 2), (1, 3), (1, 4), (1, 5), (2, 1000), (3, 1000), (4, 1000), (5, 1000), (6, 1000), (7, 1000), (8, 1000), (9, 1000), (10, 1000), (11, 1000), (12, 1000), (13, 1000), (15, 0), (15, 1), (15, 2), (15, 3), (15, 4), (15, 5), (16, 1000), (17, 1000), (18, 1000), (19, 1000), (20, 1000), (21, 1000), (22, 1000), (23, 1000), (24, 1000), (25, 1000), (26, 1000), (27, 1000), (28, 0), (28, 1), (28, 2), (28, 3), (28, 4), (28, 5), (29, 1000), (30, 1000), (31, 1000), (32, 1000), (33, 1000), (34, 1000), (35, 1000), (36, 1000), (37, 1000), (38, 1000), (39, 1000), (40, 1000), (41, 1000), (42, 0), (42, 1), (43, 5), (44, 1000), (45, 1), (45, 5), (45, 6), (45, 7), (45, 8), (45, 9), (46, 1000), (47, 1000), (48, 1000), (49, 1000), (50, 1000), (51, 1000), (52, 0), (52, 1), (52, 2), (53, 1000), (54, 1000), (55, 5), (56, 1000), (57, 1000), (58, 1000), (59, 1000), (61, 1000), (62, 1000), (63, 0), (64, 1000), (65, 1000), (66, 1000), (67, 1000), (68, 1000), (69, 3), (69, 4), (69, 5), (69, 6), (69, 7), (69, 9), (69, 11), (69, 13), (69, 17), (69, 18), (69, 23), (69, 24), (70, 1000), (71, 1000), (72, 1000), (73, 1000), (74, 1000), (75, 1000), (76, 1000), (77, 1000), (78, 1000), (79, 1000), (80, 1000), (81, 1000), (82, 1000), (83, 1000), (84, 1000)]
set_option maxHeartbeats 40000000 in
theorem th_0 {E : zE} {d : Nat} {m0 : zM} (hd : 97 ≤ d) (hI0 : zInv m0) (hK0 : qK m0) {n1 : Int} (hn1 : (E.1 : Int) = n1) (hn2 : n1 ≤ 3072) : zW E d 0 18 [(6, 0), (2, 0), (2, 69), (0, 0)] [] m0 (fun v m' => ∃ r : Int, v = (0, r) ∧ 1 ≤ r ∧ r ≤ 1 ∧ zInv m' ∧ zFr W_0 m0 m') := by
  have hF0 : zFr W_0 m0 m0 := zFr.rfl
  generalize hQ : (fun (v : zV) (m' : zM) => ∃ r : Int, v = (0, r) ∧ 1 ≤ r ∧ r ≤ 1 ∧ zInv m' ∧ zFr W_0 m0 m') = Q
  have lp18_4 : ∀ (nlp18_4 : Nat) (i2 : Int) (m3 : zM), zInv m3 → zFr W_0 m0 m3 → 0 ≤ i2 → i2 ≤ 9999 → (qK m3) → (3078 - i2).toNat < nlp18_4 → zW E (d) 0 18 [(6, 0), (2, 0), (2, 69), (0, i2)] [] m3 Q := by
    intro nlp18_4
    induction nlp18_4 with
    | zero =>
      intros
      exact absurd (by assumption : _ < 0) (Nat.not_lt_zero _)
    | succ nlp18_4 ihlp18_4 =>
      intro i2 m3 hIm3 hFm3 li2 ui2 hv0lp18_4 hmlp18_4
      refine zw_3 zr_0_18 rfl ?_
      refine zw_7s zr_0_19 rfl ?_
      refine zw_101n zr_0_20 rfl (by omega) hn1 ?_
      refine zw_push zr_0_21 ?_
      refine zw_17 zr_0_23 (by omega) ?_
      refine zw_41_2 zr_0_24 ?_ ?_
      · intro h6
        refine zw_push zr_0_1244 ?_
        refine zw_R zr_0_1245 (by decide) zm_0 (v := (0, 1)) (zRetB (by omega)) ?_
        rw [← hQ]; exact ⟨_, rfl, by omega, by omega, hIm3, hFm3⟩
      · intro h7
        refine zw_7s zr_0_27 rfl ?_
        refine zw_3 zr_0_28 rfl ?_
        refine zw_100 zr_0_29 rfl (by omega) (by omega) ?_
        intro x8 ex8 hx8a hx8b
        clear ex8
        refine zw_push zr_0_30 ?_
        refine zw_21m zr_0_32 (by omega) (by omega) ?_
        intro x9 hx9a hx9b
        by_cases h10 : x9 = 0
        · refine zw_111 (t := 184) zr_0_33 (by rw [h10]; rfl) ?_
          refine zw_7 zr_0_184 rfl ?_
          refine zw_7s zr_0_185 rfl ?_
          refine zw_3 zr_0_186 rfl ?_
          refine zw_push zr_0_187 ?_
          refine zw_16 zr_0_188 (by omega) ?_
          refine zw_100 zr_0_189 rfl (by omega) (by omega) ?_
          intro x11 ex11 hx11a hx11b
          obtain ⟨f12, ef12⟩ : ∃ v, m3 1 0 = v := ⟨_, rfl⟩
          have bf12 := ib_1_0 hIm3
          rw [ef12] at bf12
          refine zw_C zr_0_190 (Or.inl rfl) zm_99 rfl rfl ⟨Nat.le_of_ble_eq_true rfl, Nat.le_of_ble_eq_true rfl, Nat.le_of_ble_eq_true rfl, rfl, by decide⟩ (by omega) (th_99 (d := d - 1) (by omega) hIm3 (a0 := x11) (g0 := f12)  (F2 := m3 2) ef12 rfl (by omega) ) ?_
          rintro _ m13 ⟨r14, rfl, hr14a, hr14b, hIm13, gm13, po0_r14, po1_r14, po2_r14⟩
          have hFm13 : zFr W_0 m0 m13 := hFm3.trans gm13 rfl
          show zW E (d) 0 193 [(6, 0), (2, 0), (2, 69), (0, i2)] [(0, r14)] m13 Q
          refine zw_115 zr_0_193 rfl ?_
          refine zw_7 zr_0_194 rfl ?_
          refine zw_7s zr_0_195 rfl ?_
          refine zw_3 zr_0_196 rfl ?_
          refine zw_push zr_0_197 ?_
          refine zw_16 zr_0_198 (by omega) ?_
          refine zw_100k zr_0_199 rfl (by omega) (by omega) ex11.symm ?_
          obtain ⟨f15, ef15⟩ : ∃ v, m13 70 822 = v := ⟨_, rfl⟩
          have bf15 : 0 ≤ m13 70 822 ∧ m13 70 822 ≤ 10 := ib_70_players hIm13 (by omega)
          rw [ef15] at bf15
          refine zw_C zr_0_200 (Or.inl rfl) zm_145 rfl rfl ⟨Nat.le_of_ble_eq_true rfl, Nat.le_of_ble_eq_true rfl, Nat.le_of_ble_eq_true rfl, rfl, by decide⟩ (by omega) (th_145 (d := d - 1) (by omega) hIm13 (a0 := x11) (g0 := f15)  (F70 := m13 70) ef15 rfl (by omega) ) ?_
          rintro _ m16 ⟨r17, rfl, hr17a, hr17b, hIm16, gm16, po0_r17, po1_r17⟩
          have hFm16 : zFr W_0 m0 m16 := hFm13.trans gm16 rfl
          show zW E (d) 0 203 [(6, 0), (2, 0), (2, 69), (0, i2)] [(0, r17)] m16 Q
          obtain ⟨hkz18, hrz18⟩ := zk_player hIm3 hv0lp18_4 gm13 ef12 po0_r14 po1_r14 po2_r14 gm16 ef15 po0_r17 po1_r17
          refine zw_115 zr_0_203 rfl ?_
          refine zw_42 zr_0_204 ?_
          refine zw_15 (c := 6) (L' := [(6, 0), (2, 0), (2, 69), (0, (i2 + 6))]) zr_0_1238 rfl (by decide) (by omega) rfl ?_
          refine zw_42 zr_0_1241 ?_
          exact zw_less (L := [(6, 0), (2, 0), (2, 69), (0, (i2 + 6))]) ⟨Or.inr rfl, Or.inr rfl, Or.inr rfl, Or.inr rfl, trivial⟩ (ihlp18_4 ((i2 + 6)) m16 hIm16 hFm16   (by omega) (by omega) (by assumption) (by omega))
        by_cases h20 : x9 = 1
        · refine zw_111 (t := 207) zr_0_33 (by rw [h20]; rfl) ?_
          refine zw_7 zr_0_207 rfl ?_
          refine zw_7s zr_0_208 rfl ?_
          refine zw_3 zr_0_209 rfl ?_
          refine zw_push zr_0_210 ?_
          refine zw_16 zr_0_211 (by omega) ?_
          refine zw_100 zr_0_212 rfl (by omega) (by omega) ?_
          intro x21 ex21 hx21a hx21b
          refine zw_7s zr_0_213 rfl ?_
          refine zw_3 zr_0_214 rfl ?_
          refine zw_push zr_0_215 ?_
          refine zw_16 zr_0_216 (by omega) ?_
          refine zw_100 zr_0_217 rfl (by omega) (by omega) ?_
          intro x22 ex22 hx22a hx22b
          refine zw_7s zr_0_218 rfl ?_
          refine zw_3 zr_0_219 rfl ?_
          refine zw_push zr_0_220 ?_
          refine zw_16 zr_0_221 (by omega) ?_
          refine zw_100 zr_0_222 rfl (by omega) (by omega) ?_
          intro x23 ex23 hx23a hx23b
          refine zw_7s zr_0_223 rfl ?_
          refine zw_3 zr_0_224 rfl ?_
          refine zw_push zr_0_225 ?_
          refine zw_16 zr_0_226 (by omega) ?_
          refine zw_100 zr_0_227 rfl (by omega) (by omega) ?_
          intro x24 ex24 hx24a hx24b
          refine zw_7s zr_0_228 rfl ?_
          refine zw_3 zr_0_229 rfl ?_
          refine zw_push zr_0_230 ?_
          refine zw_16 zr_0_231 (by omega) ?_
          refine zw_100 zr_0_232 rfl (by omega) (by omega) ?_
          intro x25 ex25 hx25a hx25b
          refine zw_40_1 zr_0_233 ?_ ?_
          · intro h26
            refine zw_push zr_0_240 ?_
            obtain ⟨f27, ef27⟩ : ∃ v, m3 1 0 = v := ⟨_, rfl⟩
            have bf27 := ib_1_0 hIm3
            rw [ef27] at bf27
            obtain ⟨f28, ef28⟩ : ∃ v, m3 1 1 = v := ⟨_, rfl⟩
            have bf28 := ib_1_1 hIm3
            rw [ef28] at bf28
            obtain ⟨f29, ef29⟩ : ∃ v, m3 1 2 = v := ⟨_, rfl⟩
            have bf29 := ib_1_2 hIm3
            rw [ef29] at bf29
            refine zw_C zr_0_241 (Or.inl rfl) zm_102 rfl rfl ⟨Nat.le_of_ble_eq_true rfl, Nat.le_of_ble_eq_true rfl, Nat.le_of_ble_eq_true rfl, rfl, by decide⟩ (by omega) (th_102 (d := d - 1) (by omega) hIm3 (a0 := x21) (a1 := x22) (a2 := x23) (a3 := x24) (a4 := 0) (g0 := f27) (g1 := f28) (g2 := f29)  (F5 := m3 5) (F6 := m3 6) (F7 := m3 7) (F8 := m3 8) ef27 ef28 ef29 rfl rfl rfl rfl (by omega) (by omega) (by omega) (by omega) (by omega) ) ?_
            rintro _ m30 ⟨r31, rfl, hr31a, hr31b, hIm30, gm30, po0_r31, po1_r31, po2_r31, po3_r31, po4_r31, po5_r31, po6_r31, po7_r31⟩
            have hFm30 : zFr W_0 m0 m30 := hFm3.trans gm30 rfl
            have km30_1_0 : m30 1 0 = f27 := (gm30 1 0 rfl).trans ef27
            show zW E (d) 0 244 [(6, 0), (2, 0), (2, 69), (0, i2)] [(0, r31)] m30 Q
            refine zw_115 zr_0_244 rfl ?_
            refine zw_7 zr_0_245 rfl ?_
            refine zw_7s zr_0_246 rfl ?_
            refine zw_3 zr_0_247 rfl ?_
            refine zw_push zr_0_248 ?_
            refine zw_16 zr_0_249 (by omega) ?_
            refine zw_100k zr_0_250 rfl (by omega) (by omega) ex21.symm ?_
            refine zw_7s zr_0_251 rfl ?_
            refine zw_3 zr_0_252 rfl ?_
            refine zw_push zr_0_253 ?_
            refine zw_16 zr_0_254 (by omega) ?_
            refine zw_100k zr_0_255 rfl (by omega) (by omega) ex22.symm ?_
            refine zw_7s zr_0_256 rfl ?_
            refine zw_3 zr_0_257 rfl ?_
            refine zw_push zr_0_258 ?_
            refine zw_16 zr_0_259 (by omega) ?_
            refine zw_100k zr_0_260 rfl (by omega) (by omega) ex23.symm ?_
            refine zw_7s zr_0_261 rfl ?_
            refine zw_3 zr_0_262 rfl ?_
            refine zw_push zr_0_263 ?_
            refine zw_16 zr_0_264 (by omega) ?_
            refine zw_100k zr_0_265 rfl (by omega) (by omega) ex24.symm ?_
            refine zw_7s zr_0_266 rfl ?_
            refine zw_3 zr_0_267 rfl ?_
            refine zw_push zr_0_268 ?_
            refine zw_16 zr_0_269 (by omega) ?_
            refine zw_100k zr_0_270 rfl (by omega) (by omega) ex25.symm ?_
            refine zw_40_1 zr_0_271 ?_ ?_
            · intro h32
              refine zw_push zr_0_278 ?_
              obtain ⟨f33, ef33⟩ : ∃ v, m30 70 822 = v := ⟨_, rfl⟩
              have bf33 : 0 ≤ m30 70 822 ∧ m30 70 822 ≤ 10 := ib_70_players hIm30 (by omega)
              rw [ef33] at bf33
              obtain ⟨f34, ef34⟩ : ∃ v, m30 70 823 = v := ⟨_, rfl⟩
              have bf34 : 0 ≤ m30 70 823 ∧ m30 70 823 ≤ 60 := ib_70_meetings hIm30 (by omega)
              rw [ef34] at bf34
              refine zw_C zr_0_279 (Or.inl rfl) zm_146 rfl rfl ⟨Nat.le_of_ble_eq_true rfl, Nat.le_of_ble_eq_true rfl, Nat.le_of_ble_eq_true rfl, rfl, by decide⟩ (by omega) (th_146 (d := d - 1) (by omega) hIm30 (a0 := x21) (a1 := x22) (a2 := x23) (a3 := x24) (a4 := 0) (g0 := f33) (g1 := f34)  (F70 := m30 70) ef33 ef34 rfl (by omega) (by omega) (by omega) (by omega) (by omega) ) ?_
              rintro _ m35 ⟨r36, rfl, hr36a, hr36b, hIm35, gm35, po0_r36, po1_r36⟩
              have hFm35 : zFr W_0 m0 m35 := hFm30.trans gm35 rfl
              have km35_1_0 : m35 1 0 = f27 := (gm35 1 0 rfl).trans km30_1_0
              show zW E (d) 0 282 [(6, 0), (2, 0), (2, 69), (0, i2)] [(0, r36)] m35 Q
              obtain ⟨hkz37, hrz37⟩ := zk_meeting hIm3 hv0lp18_4 gm30 ef27 ef28 ef29 po0_r31 po1_r31 po2_r31 po3_r31 po4_r31 po5_r31 po6_r31 po7_r31 gm35 ef33 ef34 po0_r36 po1_r36
              refine zw_115 zr_0_282 rfl ?_
              refine zw_42 zr_0_283 ?_
              refine zw_15 (c := 6) (L' := [(6, 0), (2, 0), (2, 69), (0, (i2 + 6))]) zr_0_1238 rfl (by decide) (by omega) rfl ?_
              refine zw_42 zr_0_1241 ?_
              exact zw_less (L := [(6, 0), (2, 0), (2, 69), (0, (i2 + 6))]) ⟨Or.inr rfl, Or.inr rfl, Or.inr rfl, Or.inr rfl, trivial⟩ (ihlp18_4 ((i2 + 6)) m35 hIm35 hFm35   (by omega) (by omega) (by assumption) (by omega))
            · intro h39; omega
          · intro h40
            refine zw_push zr_0_236 ?_
            refine zw_42 zr_0_237 ?_
            obtain ⟨f41, ef41⟩ : ∃ v, m3 1 0 = v := ⟨_, rfl⟩
            have bf41 := ib_1_0 hIm3
            rw [ef41] at bf41
            obtain ⟨f42, ef42⟩ : ∃ v, m3 1 1 = v := ⟨_, rfl⟩
            have bf42 := ib_1_1 hIm3
            rw [ef42] at bf42
            obtain ⟨f43, ef43⟩ : ∃ v, m3 1 2 = v := ⟨_, rfl⟩
            have bf43 := ib_1_2 hIm3
            rw [ef43] at bf43
            refine zw_C zr_0_241 (Or.inl rfl) zm_102 rfl rfl ⟨Nat.le_of_ble_eq_true rfl, Nat.le_of_ble_eq_true rfl, Nat.le_of_ble_eq_true rfl, rfl, by decide⟩ (by omega) (th_102 (d := d - 1) (by omega) hIm3 (a0 := x21) (a1 := x22) (a2 := x23) (a3 := x24) (a4 := 1) (g0 := f41) (g1 := f42) (g2 := f43)  (F5 := m3 5) (F6 := m3 6) (F7 := m3 7) (F8 := m3 8) ef41 ef42 ef43 rfl rfl rfl rfl (by omega) (by omega) (by omega) (by omega) (by omega) ) ?_
            rintro _ m44 ⟨r45, rfl, hr45a, hr45b, hIm44, gm44, po0_r45, po1_r45, po2_r45, po3_r45, po4_r45, po5_r45, po6_r45, po7_r45⟩
            have hFm44 : zFr W_0 m0 m44 := hFm3.trans gm44 rfl
            have km44_1_0 : m44 1 0 = f41 := (gm44 1 0 rfl).trans ef41
            show zW E (d) 0 244 [(6, 0), (2, 0), (2, 69), (0, i2)] [(0, r45)] m44 Q
            refine zw_115 zr_0_244 rfl ?_
            refine zw_7 zr_0_245 rfl ?_
            refine zw_7s zr_0_246 rfl ?_
            refine zw_3 zr_0_247 rfl ?_
            refine zw_push zr_0_248 ?_
            refine zw_16 zr_0_249 (by omega) ?_
            refine zw_100k zr_0_250 rfl (by omega) (by omega) ex21.symm ?_
            refine zw_7s zr_0_251 rfl ?_
            refine zw_3 zr_0_252 rfl ?_
            refine zw_push zr_0_253 ?_
            refine zw_16 zr_0_254 (by omega) ?_
            refine zw_100k zr_0_255 rfl (by omega) (by omega) ex22.symm ?_
            refine zw_7s zr_0_256 rfl ?_
            refine zw_3 zr_0_257 rfl ?_
            refine zw_push zr_0_258 ?_
            refine zw_16 zr_0_259 (by omega) ?_
            refine zw_100k zr_0_260 rfl (by omega) (by omega) ex23.symm ?_
            refine zw_7s zr_0_261 rfl ?_
            refine zw_3 zr_0_262 rfl ?_
            refine zw_push zr_0_263 ?_
            refine zw_16 zr_0_264 (by omega) ?_
            refine zw_100k zr_0_265 rfl (by omega) (by omega) ex24.symm ?_
            refine zw_7s zr_0_266 rfl ?_
            refine zw_3 zr_0_267 rfl ?_
            refine zw_push zr_0_268 ?_
            refine zw_16 zr_0_269 (by omega) ?_
            refine zw_100k zr_0_270 rfl (by omega) (by omega) ex25.symm ?_
            refine zw_40_1 zr_0_271 ?_ ?_
            · intro h46; omega
            · intro h47
              refine zw_push zr_0_274 ?_
              refine zw_42 zr_0_275 ?_
              obtain ⟨f48, ef48⟩ : ∃ v, m44 70 822 = v := ⟨_, rfl⟩
              have bf48 : 0 ≤ m44 70 822 ∧ m44 70 822 ≤ 10 := ib_70_players hIm44 (by omega)
              rw [ef48] at bf48
              obtain ⟨f49, ef49⟩ : ∃ v, m44 70 823 = v := ⟨_, rfl⟩
              have bf49 : 0 ≤ m44 70 823 ∧ m44 70 823 ≤ 60 := ib_70_meetings hIm44 (by omega)
              rw [ef49] at bf49
              refine zw_C zr_0_279 (Or.inl rfl) zm_146 rfl rfl ⟨Nat.le_of_ble_eq_true rfl, Nat.le_of_ble_eq_true rfl, Nat.le_of_ble_eq_true rfl, rfl, by decide⟩ (by omega) (th_146 (d := d - 1) (by omega) hIm44 (a0 := x21) (a1 := x22) (a2 := x23) (a3 := x24) (a4 := 1) (g0 := f48) (g1 := f49)  (F70 := m44 70) ef48 ef49 rfl (by omega) (by omega) (by omega) (by omega) (by omega) ) ?_
              rintro _ m50 ⟨r51, rfl, hr51a, hr51b, hIm50, gm50, po0_r51, po1_r51⟩
              have hFm50 : zFr W_0 m0 m50 := hFm44.trans gm50 rfl
              have km50_1_0 : m50 1 0 = f41 := (gm50 1 0 rfl).trans km44_1_0
              show zW E (d) 0 282 [(6, 0), (2, 0), (2, 69), (0, i2)] [(0, r51)] m50 Q
              obtain ⟨hkz52, hrz52⟩ := zk_meeting hIm3 hv0lp18_4 gm44 ef41 ef42 ef43 po0_r45 po1_r45 po2_r45 po3_r45 po4_r45 po5_r45 po6_r45 po7_r45 gm50 ef48 ef49 po0_r51 po1_r51
              refine zw_115 zr_0_282 rfl ?_
              refine zw_42 zr_0_283 ?_
              refine zw_15 (c := 6) (L' := [(6, 0), (2, 0), (2, 69), (0, (i2 + 6))]) zr_0_1238 rfl (by decide) (by omega) rfl ?_
              refine zw_42 zr_0_1241 ?_
              exact zw_less (L := [(6, 0), (2, 0), (2, 69), (0, (i2 + 6))]) ⟨Or.inr rfl, Or.inr rfl, Or.inr rfl, Or.inr rfl, trivial⟩ (ihlp18_4 ((i2 + 6)) m50 hIm50 hFm50   (by omega) (by omega) (by assumption) (by omega))
        by_cases h54 : x9 = 2
        · refine zw_111 (t := 286) zr_0_33 (by rw [h54]; rfl) ?_
          refine zw_7 zr_0_286 rfl ?_
          refine zw_7s zr_0_287 rfl ?_
          refine zw_3 zr_0_288 rfl ?_
          refine zw_push zr_0_289 ?_
          refine zw_16 zr_0_290 (by omega) ?_
          refine zw_100 zr_0_291 rfl (by omega) (by omega) ?_
          intro x55 ex55 hx55a hx55b
          refine zw_7s zr_0_292 rfl ?_
          refine zw_3 zr_0_293 rfl ?_
          refine zw_push zr_0_294 ?_
          refine zw_16 zr_0_295 (by omega) ?_
          refine zw_100 zr_0_296 rfl (by omega) (by omega) ?_
          intro x56 ex56 hx56a hx56b
          refine zw_7s zr_0_297 rfl ?_
          refine zw_3 zr_0_298 rfl ?_
          refine zw_push zr_0_299 ?_
          refine zw_16 zr_0_300 (by omega) ?_
          refine zw_100 zr_0_301 rfl (by omega) (by omega) ?_
          intro x57 ex57 hx57a hx57b
          refine zw_40_1 zr_0_302 ?_ ?_
          · intro h58
            refine zw_push zr_0_309 ?_
            obtain ⟨f59, ef59⟩ : ∃ v, m3 1 1 = v := ⟨_, rfl⟩
            have bf59 := ib_1_1 hIm3
            rw [ef59] at bf59
            obtain ⟨f60, ef60⟩ : ∃ v, m3 1 2 = v := ⟨_, rfl⟩
            have bf60 := ib_1_2 hIm3
            rw [ef60] at bf60
            obtain ⟨f61, ef61⟩ : ∃ v, m3 1 3 = v := ⟨_, rfl⟩
            have bf61 := ib_1_3 hIm3
            rw [ef61] at bf61
            refine zw_C zr_0_310 (Or.inl rfl) zm_103 rfl rfl ⟨Nat.le_of_ble_eq_true rfl, Nat.le_of_ble_eq_true rfl, Nat.le_of_ble_eq_true rfl, rfl, by decide⟩ (by omega) (th_103 (d := d - 1) (by omega) hIm3 (a0 := x55) (a1 := x56) (a2 := 0) (g0 := f59) (g1 := f60) (g2 := f61)   ef59 ef60 ef61  (by omega) (by omega) (by omega) ) ?_
            rintro _ m62 ⟨r63, rfl, hr63a, hr63b, hIm62, gm62, po0_r63, po1_r63, po2_r63⟩
            have hFm62 : zFr W_0 m0 m62 := hFm3.trans gm62 rfl
            have km62_1_1 : m62 1 1 = f59 := (gm62 1 1 rfl).trans ef59
            show zW E (d) 0 313 [(6, 0), (2, 0), (2, 69), (0, i2)] [(0, r63)] m62 Q
            refine zw_115 zr_0_313 rfl ?_
            refine zw_7 zr_0_314 rfl ?_
            refine zw_7s zr_0_315 rfl ?_
            refine zw_3 zr_0_316 rfl ?_
            refine zw_push zr_0_317 ?_
            refine zw_16 zr_0_318 (by omega) ?_
            refine zw_100k zr_0_319 rfl (by omega) (by omega) ex55.symm ?_
            refine zw_7s zr_0_320 rfl ?_
            refine zw_3 zr_0_321 rfl ?_
            refine zw_push zr_0_322 ?_
            refine zw_16 zr_0_323 (by omega) ?_
            refine zw_100k zr_0_324 rfl (by omega) (by omega) ex56.symm ?_
            refine zw_7s zr_0_325 rfl ?_
            refine zw_3 zr_0_326 rfl ?_
            refine zw_push zr_0_327 ?_
            refine zw_16 zr_0_328 (by omega) ?_
            refine zw_100k zr_0_329 rfl (by omega) (by omega) ex57.symm ?_
            refine zw_40_1 zr_0_330 ?_ ?_
            · intro h64
              refine zw_push zr_0_337 ?_
              obtain ⟨f65, ef65⟩ : ∃ v, m62 70 823 = v := ⟨_, rfl⟩
              have bf65 : 0 ≤ m62 70 823 ∧ m62 70 823 ≤ 60 := ib_70_meetings hIm62 (by omega)
              rw [ef65] at bf65
              refine zw_C zr_0_338 (Or.inl rfl) zm_147 rfl rfl ⟨Nat.le_of_ble_eq_true rfl, Nat.le_of_ble_eq_true rfl, Nat.le_of_ble_eq_true rfl, rfl, by decide⟩ (by omega) (th_147 (d := d - 1) (by omega) hIm62 (a0 := x55) (a1 := x56) (a2 := 0) (g0 := f65)  (F70 := m62 70) ef65 rfl (by omega) (by omega) (by omega) ) ?_
              rintro _ m66 ⟨r67, rfl, hr67a, hr67b, hIm66, gm66, po0_r67, po1_r67⟩
              have hFm66 : zFr W_0 m0 m66 := hFm62.trans gm66 rfl
              have km66_1_1 : m66 1 1 = f59 := (gm66 1 1 rfl).trans km62_1_1
              show zW E (d) 0 341 [(6, 0), (2, 0), (2, 69), (0, i2)] [(0, r67)] m66 Q
              obtain ⟨hkz68, hrz68⟩ := zk_mark hIm3 hv0lp18_4 gm62 ef59 ef60 ef61 po0_r63 po1_r63 po2_r63 gm66 ef65 po0_r67 po1_r67
              refine zw_115 zr_0_341 rfl ?_
              refine zw_42 zr_0_342 ?_
              refine zw_15 (c := 6) (L' := [(6, 0), (2, 0), (2, 69), (0, (i2 + 6))]) zr_0_1238 rfl (by decide) (by omega) rfl ?_
              refine zw_42 zr_0_1241 ?_
              exact zw_less (L := [(6, 0), (2, 0), (2, 69), (0, (i2 + 6))]) ⟨Or.inr rfl, Or.inr rfl, Or.inr rfl, Or.inr rfl, trivial⟩ (ihlp18_4 ((i2 + 6)) m66 hIm66 hFm66   (by omega) (by omega) (by assumption) (by omega))
            · intro h70; omega
          · intro h71
            refine zw_push zr_0_305 ?_
            refine zw_42 zr_0_306 ?_
            obtain ⟨f72, ef72⟩ : ∃ v, m3 1 1 = v := ⟨_, rfl⟩
            have bf72 := ib_1_1 hIm3
            rw [ef72] at bf72
            obtain ⟨f73, ef73⟩ : ∃ v, m3 1 2 = v := ⟨_, rfl⟩
            have bf73 := ib_1_2 hIm3
            rw [ef73] at bf73
            obtain ⟨f74, ef74⟩ : ∃ v, m3 1 3 = v := ⟨_, rfl⟩
            have bf74 := ib_1_3 hIm3
            rw [ef74] at bf74
            refine zw_C zr_0_310 (Or.inl rfl) zm_103 rfl rfl ⟨Nat.le_of_ble_eq_true rfl, Nat.le_of_ble_eq_true rfl, Nat.le_of_ble_eq_true rfl, rfl, by decide⟩ (by omega) (th_103 (d := d - 1) (by omega) hIm3 (a0 := x55) (a1 := x56) (a2 := 1) (g0 := f72) (g1 := f73) (g2 := f74)   ef72 ef73 ef74  (by omega) (by omega) (by omega) ) ?_
            rintro _ m75 ⟨r76, rfl, hr76a, hr76b, hIm75, gm75, po0_r76, po1_r76, po2_r76⟩
            have hFm75 : zFr W_0 m0 m75 := hFm3.trans gm75 rfl
            have km75_1_1 : m75 1 1 = f72 := (gm75 1 1 rfl).trans ef72
            show zW E (d) 0 313 [(6, 0), (2, 0), (2, 69), (0, i2)] [(0, r76)] m75 Q
            refine zw_115 zr_0_313 rfl ?_
            refine zw_7 zr_0_314 rfl ?_
            refine zw_7s zr_0_315 rfl ?_
            refine zw_3 zr_0_316 rfl ?_
            refine zw_push zr_0_317 ?_
            refine zw_16 zr_0_318 (by omega) ?_
            refine zw_100k zr_0_319 rfl (by omega) (by omega) ex55.symm ?_
            refine zw_7s zr_0_320 rfl ?_
            refine zw_3 zr_0_321 rfl ?_
            refine zw_push zr_0_322 ?_
            refine zw_16 zr_0_323 (by omega) ?_
            refine zw_100k zr_0_324 rfl (by omega) (by omega) ex56.symm ?_
            refine zw_7s zr_0_325 rfl ?_
            refine zw_3 zr_0_326 rfl ?_
            refine zw_push zr_0_327 ?_
            refine zw_16 zr_0_328 (by omega) ?_
            refine zw_100k zr_0_329 rfl (by omega) (by omega) ex57.symm ?_
            refine zw_40_1 zr_0_330 ?_ ?_
            · intro h77; omega
            · intro h78
              refine zw_push zr_0_333 ?_
              refine zw_42 zr_0_334 ?_
              obtain ⟨f79, ef79⟩ : ∃ v, m75 70 823 = v := ⟨_, rfl⟩
              have bf79 : 0 ≤ m75 70 823 ∧ m75 70 823 ≤ 60 := ib_70_meetings hIm75 (by omega)
              rw [ef79] at bf79
              refine zw_C zr_0_338 (Or.inl rfl) zm_147 rfl rfl ⟨Nat.le_of_ble_eq_true rfl, Nat.le_of_ble_eq_true rfl, Nat.le_of_ble_eq_true rfl, rfl, by decide⟩ (by omega) (th_147 (d := d - 1) (by omega) hIm75 (a0 := x55) (a1 := x56) (a2 := 1) (g0 := f79)  (F70 := m75 70) ef79 rfl (by omega) (by omega) (by omega) ) ?_
              rintro _ m80 ⟨r81, rfl, hr81a, hr81b, hIm80, gm80, po0_r81, po1_r81⟩
              have hFm80 : zFr W_0 m0 m80 := hFm75.trans gm80 rfl
              have km80_1_1 : m80 1 1 = f72 := (gm80 1 1 rfl).trans km75_1_1
              show zW E (d) 0 341 [(6, 0), (2, 0), (2, 69), (0, i2)] [(0, r81)] m80 Q
              obtain ⟨hkz82, hrz82⟩ := zk_mark hIm3 hv0lp18_4 gm75 ef72 ef73 ef74 po0_r76 po1_r76 po2_r76 gm80 ef79 po0_r81 po1_r81
              refine zw_115 zr_0_341 rfl ?_
              refine zw_42 zr_0_342 ?_
              refine zw_15 (c := 6) (L' := [(6, 0), (2, 0), (2, 69), (0, (i2 + 6))]) zr_0_1238 rfl (by decide) (by omega) rfl ?_
              refine zw_42 zr_0_1241 ?_
              exact zw_less (L := [(6, 0), (2, 0), (2, 69), (0, (i2 + 6))]) ⟨Or.inr rfl, Or.inr rfl, Or.inr rfl, Or.inr rfl, trivial⟩ (ihlp18_4 ((i2 + 6)) m80 hIm80 hFm80   (by omega) (by omega) (by assumption) (by omega))
        by_cases h84 : x9 = 3
        · refine zw_111 (t := 345) zr_0_33 (by rw [h84]; rfl) ?_
          refine zw_7 zr_0_345 rfl ?_
          refine zw_7s zr_0_346 rfl ?_
          refine zw_3 zr_0_347 rfl ?_
          refine zw_push zr_0_348 ?_
          refine zw_16 zr_0_349 (by omega) ?_
          refine zw_100 zr_0_350 rfl (by omega) (by omega) ?_
          intro x85 ex85 hx85a hx85b
          refine zw_7s zr_0_351 rfl ?_
          refine zw_3 zr_0_352 rfl ?_
          refine zw_push zr_0_353 ?_
          refine zw_16 zr_0_354 (by omega) ?_
          refine zw_100 zr_0_355 rfl (by omega) (by omega) ?_
          intro x86 ex86 hx86a hx86b
          refine zw_C zr_0_356 (Or.inl rfl) zm_105 rfl rfl ⟨Nat.le_of_ble_eq_true rfl, Nat.le_of_ble_eq_true rfl, Nat.le_of_ble_eq_true rfl, rfl, by decide⟩ (by omega) (th_105 (d := d - 1) (by omega) hIm3 (a0 := x85) (a1 := x86)   (F9 := m3 9)  rfl (by omega) (by omega) ) ?_
          rintro _ m87 ⟨r88, rfl, hr88a, hr88b, hIm87, gm87, po0_r88, po1_r88⟩
          have hFm87 : zFr W_0 m0 m87 := hFm3.trans gm87 rfl
          show zW E (d) 0 359 [(6, 0), (2, 0), (2, 69), (0, i2)] [(0, r88)] m87 Q
          refine zw_115 zr_0_359 rfl ?_
          refine zw_7 zr_0_360 rfl ?_
          refine zw_7s zr_0_361 rfl ?_
          refine zw_3 zr_0_362 rfl ?_
          refine zw_push zr_0_363 ?_
          refine zw_16 zr_0_364 (by omega) ?_
          refine zw_100k zr_0_365 rfl (by omega) (by omega) ex85.symm ?_
          refine zw_7s zr_0_366 rfl ?_
          refine zw_3 zr_0_367 rfl ?_
          refine zw_push zr_0_368 ?_
          refine zw_16 zr_0_369 (by omega) ?_
          refine zw_100k zr_0_370 rfl (by omega) (by omega) ex86.symm ?_
          refine zw_C zr_0_371 (Or.inl rfl) zm_149 rfl rfl ⟨Nat.le_of_ble_eq_true rfl, Nat.le_of_ble_eq_true rfl, Nat.le_of_ble_eq_true rfl, rfl, by decide⟩ (by omega) (th_149 (d := d - 1) (by omega) hIm87 (a0 := x85) (a1 := x86)   (F70 := m87 70)  rfl (by omega) (by omega) ) ?_
          rintro _ m89 ⟨r90, rfl, hr90a, hr90b, hIm89, gm89, po0_r90, po1_r90⟩
          have hFm89 : zFr W_0 m0 m89 := hFm87.trans gm89 rfl
          show zW E (d) 0 374 [(6, 0), (2, 0), (2, 69), (0, i2)] [(0, r90)] m89 Q
          obtain ⟨hkz91, hrz91⟩ := zk_first hIm3 hv0lp18_4 gm87 po0_r88 po1_r88 gm89 po0_r90 po1_r90
          refine zw_115 zr_0_374 rfl ?_
          refine zw_42 zr_0_375 ?_
          refine zw_15 (c := 6) (L' := [(6, 0), (2, 0), (2, 69), (0, (i2 + 6))]) zr_0_1238 rfl (by decide) (by omega) rfl ?_
          refine zw_42 zr_0_1241 ?_
          exact zw_less (L := [(6, 0), (2, 0), (2, 69), (0, (i2 + 6))]) ⟨Or.inr rfl, Or.inr rfl, Or.inr rfl, Or.inr rfl, trivial⟩ (ihlp18_4 ((i2 + 6)) m89 hIm89 hFm89   (by omega) (by omega) (by assumption) (by omega))
        by_cases h93 : x9 = 4
        · refine zw_111 (t := 378) zr_0_33 (by rw [h93]; rfl) ?_
          refine zw_7 zr_0_378 rfl ?_
          refine zw_7s zr_0_379 rfl ?_
          refine zw_3 zr_0_380 rfl ?_
          refine zw_push zr_0_381 ?_
          refine zw_16 zr_0_382 (by omega) ?_
          refine zw_100 zr_0_383 rfl (by omega) (by omega) ?_
          intro x94 ex94 hx94a hx94b
          refine zw_7s zr_0_384 rfl ?_
          refine zw_3 zr_0_385 rfl ?_
          refine zw_push zr_0_386 ?_
          refine zw_16 zr_0_387 (by omega) ?_
          refine zw_100 zr_0_388 rfl (by omega) (by omega) ?_
          intro x95 ex95 hx95a hx95b
          refine zw_C zr_0_389 (Or.inl rfl) zm_106 rfl rfl ⟨Nat.le_of_ble_eq_true rfl, Nat.le_of_ble_eq_true rfl, Nat.le_of_ble_eq_true rfl, rfl, by decide⟩ (by omega) (th_106 (d := d - 1) (by omega) hIm3 (a0 := x94) (a1 := x95)   (F10 := m3 10) (F11 := m3 11)  rfl rfl (by omega) (by omega) ) ?_
          rintro _ m96 ⟨r97, rfl, hr97a, hr97b, hIm96, gm96, po0_r97, po1_r97, po2_r97⟩
          have hFm96 : zFr W_0 m0 m96 := hFm3.trans gm96 rfl
          show zW E (d) 0 392 [(6, 0), (2, 0), (2, 69), (0, i2)] [(0, r97)] m96 Q
          refine zw_115 zr_0_392 rfl ?_
          refine zw_7 zr_0_393 rfl ?_
          refine zw_7s zr_0_394 rfl ?_
          refine zw_3 zr_0_395 rfl ?_
          refine zw_push zr_0_396 ?_
          refine zw_16 zr_0_397 (by omega) ?_
          refine zw_100k zr_0_398 rfl (by omega) (by omega) ex94.symm ?_
          refine zw_7s zr_0_399 rfl ?_
          refine zw_3 zr_0_400 rfl ?_
          refine zw_push zr_0_401 ?_
          refine zw_16 zr_0_402 (by omega) ?_
          refine zw_100k zr_0_403 rfl (by omega) (by omega) ex95.symm ?_
          refine zw_C zr_0_404 (Or.inl rfl) zm_150 rfl rfl ⟨Nat.le_of_ble_eq_true rfl, Nat.le_of_ble_eq_true rfl, Nat.le_of_ble_eq_true rfl, rfl, by decide⟩ (by omega) (th_150 (d := d - 1) (by omega) hIm96 (a0 := x94) (a1 := x95)   (F70 := m96 70)  rfl (by omega) (by omega) ) ?_
          rintro _ m98 ⟨r99, rfl, hr99a, hr99b, hIm98, gm98, po0_r99, po1_r99⟩
          have hFm98 : zFr W_0 m0 m98 := hFm96.trans gm98 rfl
          show zW E (d) 0 407 [(6, 0), (2, 0), (2, 69), (0, i2)] [(0, r99)] m98 Q
          obtain ⟨hkz100, hrz100⟩ := zk_write hIm3 hv0lp18_4 gm96 po0_r97 po1_r97 po2_r97 gm98 po0_r99 po1_r99
          refine zw_115 zr_0_407 rfl ?_
          refine zw_42 zr_0_408 ?_
          refine zw_15 (c := 6) (L' := [(6, 0), (2, 0), (2, 69), (0, (i2 + 6))]) zr_0_1238 rfl (by decide) (by omega) rfl ?_
          refine zw_42 zr_0_1241 ?_
          exact zw_less (L := [(6, 0), (2, 0), (2, 69), (0, (i2 + 6))]) ⟨Or.inr rfl, Or.inr rfl, Or.inr rfl, Or.inr rfl, trivial⟩ (ihlp18_4 ((i2 + 6)) m98 hIm98 hFm98   (by omega) (by omega) (by assumption) (by omega))
        by_cases h102 : x9 = 5
        · refine zw_111 (t := 411) zr_0_33 (by rw [h102]; rfl) ?_
          refine zw_7 zr_0_411 rfl ?_
          refine zw_7s zr_0_412 rfl ?_
          refine zw_3 zr_0_413 rfl ?_
          refine zw_push zr_0_414 ?_
          refine zw_16 zr_0_415 (by omega) ?_
          refine zw_100 zr_0_416 rfl (by omega) (by omega) ?_
          intro x103 ex103 hx103a hx103b
          refine zw_C zr_0_417 (Or.inl rfl) zm_107 rfl rfl ⟨Nat.le_of_ble_eq_true rfl, Nat.le_of_ble_eq_true rfl, Nat.le_of_ble_eq_true rfl, rfl, by decide⟩ (by omega) (th_107 (d := d - 1) (by omega) hIm3 (a0 := x103)   (F10 := m3 10)  rfl (by omega) ) ?_
          rintro _ m104 ⟨r105, rfl, hr105a, hr105b, hIm104, gm104, po0_r105, po1_r105⟩
          have hFm104 : zFr W_0 m0 m104 := hFm3.trans gm104 rfl
          show zW E (d) 0 420 [(6, 0), (2, 0), (2, 69), (0, i2)] [(0, r105)] m104 Q
          refine zw_115 zr_0_420 rfl ?_
          refine zw_7 zr_0_421 rfl ?_
          refine zw_7s zr_0_422 rfl ?_
          refine zw_3 zr_0_423 rfl ?_
          refine zw_push zr_0_424 ?_
          refine zw_16 zr_0_425 (by omega) ?_
          refine zw_100k zr_0_426 rfl (by omega) (by omega) ex103.symm ?_
          refine zw_C zr_0_427 (Or.inl rfl) zm_151 rfl rfl ⟨Nat.le_of_ble_eq_true rfl, Nat.le_of_ble_eq_true rfl, Nat.le_of_ble_eq_true rfl, rfl, by decide⟩ (by omega) (th_151 (d := d - 1) (by omega) hIm104 (a0 := x103)   (F70 := m104 70)  rfl (by omega) ) ?_
          rintro _ m106 ⟨r107, rfl, hr107a, hr107b, hIm106, gm106, po0_r107, po1_r107⟩
          have hFm106 : zFr W_0 m0 m106 := hFm104.trans gm106 rfl
          show zW E (d) 0 430 [(6, 0), (2, 0), (2, 69), (0, i2)] [(0, r107)] m106 Q
          obtain ⟨hkz108, hrz108⟩ := zk_erase hIm3 hv0lp18_4 gm104 po0_r105 po1_r105 gm106 po0_r107 po1_r107
          refine zw_115 zr_0_430 rfl ?_
          refine zw_42 zr_0_431 ?_
          refine zw_15 (c := 6) (L' := [(6, 0), (2, 0), (2, 69), (0, (i2 + 6))]) zr_0_1238 rfl (by decide) (by omega) rfl ?_
          refine zw_42 zr_0_1241 ?_
          exact zw_less (L := [(6, 0), (2, 0), (2, 69), (0, (i2 + 6))]) ⟨Or.inr rfl, Or.inr rfl, Or.inr rfl, Or.inr rfl, trivial⟩ (ihlp18_4 ((i2 + 6)) m106 hIm106 hFm106   (by omega) (by omega) (by assumption) (by omega))
        by_cases h110 : x9 = 6
        · refine zw_111 (t := 434) zr_0_33 (by rw [h110]; rfl) ?_
          refine zw_7 zr_0_434 rfl ?_
          refine zw_7s zr_0_435 rfl ?_
          refine zw_3 zr_0_436 rfl ?_
          refine zw_push zr_0_437 ?_
          refine zw_16 zr_0_438 (by omega) ?_
          refine zw_100 zr_0_439 rfl (by omega) (by omega) ?_
          intro x111 ex111 hx111a hx111b
          refine zw_C zr_0_440 (Or.inl rfl) zm_108 rfl rfl ⟨Nat.le_of_ble_eq_true rfl, Nat.le_of_ble_eq_true rfl, Nat.le_of_ble_eq_true rfl, rfl, by decide⟩ (by omega) (th_108 (d := d - 1) (by omega) hIm3 (a0 := x111)      (by omega) ) ?_
          rintro _ m112 ⟨r113, rfl, hr113a, hr113b, hIm112, gm112⟩
          have hFm112 : zFr W_0 m0 m112 := hFm3.trans gm112 rfl
          show zW E (d) 0 443 [(6, 0), (2, 0), (2, 69), (0, i2)] [(0, r113)] m112 Q
          refine zw_115 zr_0_443 rfl ?_
          refine zw_7 zr_0_444 rfl ?_
          refine zw_7s zr_0_445 rfl ?_
          refine zw_3 zr_0_446 rfl ?_
          refine zw_push zr_0_447 ?_
          refine zw_16 zr_0_448 (by omega) ?_
          refine zw_100k zr_0_449 rfl (by omega) (by omega) ex111.symm ?_
          refine zw_C zr_0_450 (Or.inl rfl) zm_163 rfl rfl ⟨Nat.le_of_ble_eq_true rfl, Nat.le_of_ble_eq_true rfl, Nat.le_of_ble_eq_true rfl, rfl, by decide⟩ (by omega) (th_163 (d := d - 1) (by omega) hIm112 (a0 := x111)      (by omega) ) ?_
          rintro _ m114 ⟨r115, rfl, hr115a, hr115b, hIm114, gm114⟩
          have hFm114 : zFr W_0 m0 m114 := hFm112.trans gm114 rfl
          show zW E (d) 0 453 [(6, 0), (2, 0), (2, 69), (0, i2)] [(0, r115)] m114 Q
          have hkz116_0 := zk_fr hv0lp18_4 gm112
          have hkz116_1 := zk_fr hkz116_0 gm114
          refine zw_115 zr_0_453 rfl ?_
          refine zw_42 zr_0_454 ?_
          refine zw_15 (c := 6) (L' := [(6, 0), (2, 0), (2, 69), (0, (i2 + 6))]) zr_0_1238 rfl (by decide) (by omega) rfl ?_
          refine zw_42 zr_0_1241 ?_
          exact zw_less (L := [(6, 0), (2, 0), (2, 69), (0, (i2 + 6))]) ⟨Or.inr rfl, Or.inr rfl, Or.inr rfl, Or.inr rfl, trivial⟩ (ihlp18_4 ((i2 + 6)) m114 hIm114 hFm114   (by omega) (by omega) (by assumption) (by omega))
        by_cases h118 : x9 = 7
        · refine zw_111 (t := 457) zr_0_33 (by rw [h118]; rfl) ?_
          refine zw_7 zr_0_457 rfl ?_
          refine zw_7s zr_0_458 rfl ?_
          refine zw_3 zr_0_459 rfl ?_
          refine zw_push zr_0_460 ?_
          refine zw_16 zr_0_461 (by omega) ?_
          refine zw_100 zr_0_462 rfl (by omega) (by omega) ?_
          intro x119 ex119 hx119a hx119b
          refine zw_7s zr_0_463 rfl ?_
          refine zw_3 zr_0_464 rfl ?_
          refine zw_push zr_0_465 ?_
          refine zw_16 zr_0_466 (by omega) ?_
          refine zw_100 zr_0_467 rfl (by omega) (by omega) ?_
          intro x120 ex120 hx120a hx120b
          refine zw_7s zr_0_468 rfl ?_
          refine zw_3 zr_0_469 rfl ?_
          refine zw_push zr_0_470 ?_
          refine zw_16 zr_0_471 (by omega) ?_
          refine zw_100 zr_0_472 rfl (by omega) (by omega) ?_
          intro x121 ex121 hx121a hx121b
          refine zw_C zr_0_473 (Or.inl rfl) zm_109 rfl rfl ⟨Nat.le_of_ble_eq_true rfl, Nat.le_of_ble_eq_true rfl, Nat.le_of_ble_eq_true rfl, rfl, by decide⟩ (by omega) (th_109 (d := d - 1) (by omega) hIm3 (a0 := x119) (a1 := x120) (a2 := x121)      (by omega) (by omega) (by omega) ) ?_
          rintro _ m122 ⟨r123, rfl, hr123a, hr123b, hIm122, gm122⟩
          have hFm122 : zFr W_0 m0 m122 := hFm3.trans gm122 rfl
          show zW E (d) 0 476 [(6, 0), (2, 0), (2, 69), (0, i2)] [(0, r123)] m122 Q
          refine zw_115 zr_0_476 rfl ?_
          refine zw_7 zr_0_477 rfl ?_
          refine zw_7s zr_0_478 rfl ?_
          refine zw_3 zr_0_479 rfl ?_
          refine zw_push zr_0_480 ?_
          refine zw_16 zr_0_481 (by omega) ?_
          refine zw_100k zr_0_482 rfl (by omega) (by omega) ex119.symm ?_
          refine zw_7s zr_0_483 rfl ?_
          refine zw_3 zr_0_484 rfl ?_
          refine zw_push zr_0_485 ?_
          refine zw_16 zr_0_486 (by omega) ?_
          refine zw_100k zr_0_487 rfl (by omega) (by omega) ex120.symm ?_
          refine zw_7s zr_0_488 rfl ?_
          refine zw_3 zr_0_489 rfl ?_
          refine zw_push zr_0_490 ?_
          refine zw_16 zr_0_491 (by omega) ?_
          refine zw_100k zr_0_492 rfl (by omega) (by omega) ex121.symm ?_
          refine zw_C zr_0_493 (Or.inl rfl) zm_168 rfl rfl ⟨Nat.le_of_ble_eq_true rfl, Nat.le_of_ble_eq_true rfl, Nat.le_of_ble_eq_true rfl, rfl, by decide⟩ (by omega) (th_168 (d := d - 1) (by omega) hIm122 (a0 := x119) (a1 := x120) (a2 := x121)      (by omega) (by omega) (by omega) ) ?_
          rintro _ m124 ⟨r125, rfl, hr125a, hr125b, hIm124, gm124⟩
          have hFm124 : zFr W_0 m0 m124 := hFm122.trans gm124 rfl
          show zW E (d) 0 496 [(6, 0), (2, 0), (2, 69), (0, i2)] [(0, r125)] m124 Q
          have hkz126_0 := zk_fr hv0lp18_4 gm122
          have hkz126_1 := zk_fr hkz126_0 gm124
          refine zw_115 zr_0_496 rfl ?_
          refine zw_42 zr_0_497 ?_
          refine zw_15 (c := 6) (L' := [(6, 0), (2, 0), (2, 69), (0, (i2 + 6))]) zr_0_1238 rfl (by decide) (by omega) rfl ?_
          refine zw_42 zr_0_1241 ?_
          exact zw_less (L := [(6, 0), (2, 0), (2, 69), (0, (i2 + 6))]) ⟨Or.inr rfl, Or.inr rfl, Or.inr rfl, Or.inr rfl, trivial⟩ (ihlp18_4 ((i2 + 6)) m124 hIm124 hFm124   (by omega) (by omega) (by assumption) (by omega))
        by_cases h128 : x9 = 8
        · refine zw_111 (t := 500) zr_0_33 (by rw [h128]; rfl) ?_
          refine zw_7 zr_0_500 rfl ?_
          refine zw_7s zr_0_501 rfl ?_
          refine zw_3 zr_0_502 rfl ?_
          refine zw_push zr_0_503 ?_
          refine zw_16 zr_0_504 (by omega) ?_
          refine zw_100 zr_0_505 rfl (by omega) (by omega) ?_
          intro x129 ex129 hx129a hx129b
          refine zw_7s zr_0_506 rfl ?_
          refine zw_3 zr_0_507 rfl ?_
          refine zw_push zr_0_508 ?_
          refine zw_16 zr_0_509 (by omega) ?_
          refine zw_100 zr_0_510 rfl (by omega) (by omega) ?_
          intro x130 ex130 hx130a hx130b
          refine zw_C zr_0_511 (Or.inl rfl) zm_110 rfl rfl ⟨Nat.le_of_ble_eq_true rfl, Nat.le_of_ble_eq_true rfl, Nat.le_of_ble_eq_true rfl, rfl, by decide⟩ (by omega) (th_110 (d := d - 1) (by omega) hIm3 (a0 := x129) (a1 := x130)      (by omega) (by omega) ) ?_
          rintro _ m131 ⟨r132, rfl, hr132a, hr132b, hIm131, gm131⟩
          have hFm131 : zFr W_0 m0 m131 := hFm3.trans gm131 rfl
          show zW E (d) 0 514 [(6, 0), (2, 0), (2, 69), (0, i2)] [(0, r132)] m131 Q
          refine zw_115 zr_0_514 rfl ?_
          refine zw_7 zr_0_515 rfl ?_
          refine zw_7s zr_0_516 rfl ?_
          refine zw_3 zr_0_517 rfl ?_
          refine zw_push zr_0_518 ?_
          refine zw_16 zr_0_519 (by omega) ?_
          refine zw_100k zr_0_520 rfl (by omega) (by omega) ex129.symm ?_
          refine zw_7s zr_0_521 rfl ?_
          refine zw_3 zr_0_522 rfl ?_
          refine zw_push zr_0_523 ?_
          refine zw_16 zr_0_524 (by omega) ?_
          refine zw_100k zr_0_525 rfl (by omega) (by omega) ex130.symm ?_
          refine zw_C zr_0_526 (Or.inl rfl) zm_170 rfl rfl ⟨Nat.le_of_ble_eq_true rfl, Nat.le_of_ble_eq_true rfl, Nat.le_of_ble_eq_true rfl, rfl, by decide⟩ (by omega) (th_170 (d := d - 1) (by omega) hIm131 (a0 := x129) (a1 := x130)      (by omega) (by omega) ) ?_
          rintro _ m133 ⟨r134, rfl, hr134a, hr134b, hIm133, gm133⟩
          have hFm133 : zFr W_0 m0 m133 := hFm131.trans gm133 rfl
          show zW E (d) 0 529 [(6, 0), (2, 0), (2, 69), (0, i2)] [(0, r134)] m133 Q
          have hkz135_0 := zk_fr hv0lp18_4 gm131
          have hkz135_1 := zk_fr hkz135_0 gm133
          refine zw_115 zr_0_529 rfl ?_
          refine zw_42 zr_0_530 ?_
          refine zw_15 (c := 6) (L' := [(6, 0), (2, 0), (2, 69), (0, (i2 + 6))]) zr_0_1238 rfl (by decide) (by omega) rfl ?_
          refine zw_42 zr_0_1241 ?_
          exact zw_less (L := [(6, 0), (2, 0), (2, 69), (0, (i2 + 6))]) ⟨Or.inr rfl, Or.inr rfl, Or.inr rfl, Or.inr rfl, trivial⟩ (ihlp18_4 ((i2 + 6)) m133 hIm133 hFm133   (by omega) (by omega) (by assumption) (by omega))
        by_cases h137 : x9 = 9
        · refine zw_111 (t := 533) zr_0_33 (by rw [h137]; rfl) ?_
          refine zw_7 zr_0_533 rfl ?_
          refine zw_7s zr_0_534 rfl ?_
          refine zw_3 zr_0_535 rfl ?_
          refine zw_push zr_0_536 ?_
          refine zw_16 zr_0_537 (by omega) ?_
          refine zw_100 zr_0_538 rfl (by omega) (by omega) ?_
          intro x138 ex138 hx138a hx138b
          refine zw_7s zr_0_539 rfl ?_
          refine zw_3 zr_0_540 rfl ?_
          refine zw_push zr_0_541 ?_
          refine zw_16 zr_0_542 (by omega) ?_
          refine zw_100 zr_0_543 rfl (by omega) (by omega) ?_
          intro x139 ex139 hx139a hx139b
          refine zw_7s zr_0_544 rfl ?_
          refine zw_3 zr_0_545 rfl ?_
          refine zw_push zr_0_546 ?_
          refine zw_16 zr_0_547 (by omega) ?_
          refine zw_100 zr_0_548 rfl (by omega) (by omega) ?_
          intro x140 ex140 hx140a hx140b
          refine zw_C zr_0_549 (Or.inl rfl) zm_111 rfl rfl ⟨Nat.le_of_ble_eq_true rfl, Nat.le_of_ble_eq_true rfl, Nat.le_of_ble_eq_true rfl, rfl, by decide⟩ (by omega) (th_111 (d := d - 1) (by omega) hIm3 (a0 := x138) (a1 := x139) (a2 := x140)      (by omega) (by omega) (by omega) ) ?_
          rintro _ m141 ⟨r142, rfl, hr142a, hr142b, hIm141, gm141⟩
          have hFm141 : zFr W_0 m0 m141 := hFm3.trans gm141 rfl
          show zW E (d) 0 552 [(6, 0), (2, 0), (2, 69), (0, i2)] [(0, r142)] m141 Q
          refine zw_115 zr_0_552 rfl ?_
          refine zw_7 zr_0_553 rfl ?_
          refine zw_7s zr_0_554 rfl ?_
          refine zw_3 zr_0_555 rfl ?_
          refine zw_push zr_0_556 ?_
          refine zw_16 zr_0_557 (by omega) ?_
          refine zw_100k zr_0_558 rfl (by omega) (by omega) ex138.symm ?_
          refine zw_7s zr_0_559 rfl ?_
          refine zw_3 zr_0_560 rfl ?_
          refine zw_push zr_0_561 ?_
          refine zw_16 zr_0_562 (by omega) ?_
          refine zw_100k zr_0_563 rfl (by omega) (by omega) ex139.symm ?_
          refine zw_7s zr_0_564 rfl ?_
          refine zw_3 zr_0_565 rfl ?_
          refine zw_push zr_0_566 ?_
          refine zw_16 zr_0_567 (by omega) ?_
          refine zw_100k zr_0_568 rfl (by omega) (by omega) ex140.symm ?_
          refine zw_C zr_0_569 (Or.inl rfl) zm_174 rfl rfl ⟨Nat.le_of_ble_eq_true rfl, Nat.le_of_ble_eq_true rfl, Nat.le_of_ble_eq_true rfl, rfl, by decide⟩ (by omega) (th_174 (d := d - 1) (by omega) hIm141 (a0 := x138) (a1 := x139) (a2 := x140)      (by omega) (by omega) (by omega) ) ?_
          rintro _ m143 ⟨r144, rfl, hr144a, hr144b, hIm143, gm143⟩
          have hFm143 : zFr W_0 m0 m143 := hFm141.trans gm143 rfl
          show zW E (d) 0 572 [(6, 0), (2, 0), (2, 69), (0, i2)] [(0, r144)] m143 Q
          have hkz145_0 := zk_fr hv0lp18_4 gm141
          have hkz145_1 := zk_fr hkz145_0 gm143
          refine zw_115 zr_0_572 rfl ?_
          refine zw_42 zr_0_573 ?_
          refine zw_15 (c := 6) (L' := [(6, 0), (2, 0), (2, 69), (0, (i2 + 6))]) zr_0_1238 rfl (by decide) (by omega) rfl ?_
          refine zw_42 zr_0_1241 ?_
          exact zw_less (L := [(6, 0), (2, 0), (2, 69), (0, (i2 + 6))]) ⟨Or.inr rfl, Or.inr rfl, Or.inr rfl, Or.inr rfl, trivial⟩ (ihlp18_4 ((i2 + 6)) m143 hIm143 hFm143   (by omega) (by omega) (by assumption) (by omega))
        by_cases h147 : x9 = 10
        · refine zw_111 (t := 576) zr_0_33 (by rw [h147]; rfl) ?_
          refine zw_7 zr_0_576 rfl ?_
          refine zw_7s zr_0_577 rfl ?_
          refine zw_3 zr_0_578 rfl ?_
          refine zw_push zr_0_579 ?_
          refine zw_16 zr_0_580 (by omega) ?_
          refine zw_100 zr_0_581 rfl (by omega) (by omega) ?_
          intro x148 ex148 hx148a hx148b
          refine zw_7s zr_0_582 rfl ?_
          refine zw_3 zr_0_583 rfl ?_
          refine zw_push zr_0_584 ?_
          refine zw_16 zr_0_585 (by omega) ?_
          refine zw_100 zr_0_586 rfl (by omega) (by omega) ?_
          intro x149 ex149 hx149a hx149b
          refine zw_7s zr_0_587 rfl ?_
          refine zw_3 zr_0_588 rfl ?_
          refine zw_push zr_0_589 ?_
          refine zw_16 zr_0_590 (by omega) ?_
          refine zw_100 zr_0_591 rfl (by omega) (by omega) ?_
          intro x150 ex150 hx150a hx150b
          refine zw_C zr_0_592 (Or.inl rfl) zm_112 rfl rfl ⟨Nat.le_of_ble_eq_true rfl, Nat.le_of_ble_eq_true rfl, Nat.le_of_ble_eq_true rfl, rfl, by decide⟩ (by omega) (th_112 (d := d - 1) (by omega) hIm3 (a0 := x148) (a1 := x149) (a2 := x150)      (by omega) (by omega) (by omega) ) ?_
          rintro _ m151 ⟨r152, rfl, hr152a, hr152b, hIm151, gm151⟩
          have hFm151 : zFr W_0 m0 m151 := hFm3.trans gm151 rfl
          show zW E (d) 0 595 [(6, 0), (2, 0), (2, 69), (0, i2)] [(0, r152)] m151 Q
          refine zw_115 zr_0_595 rfl ?_
          refine zw_7 zr_0_596 rfl ?_
          refine zw_7s zr_0_597 rfl ?_
          refine zw_3 zr_0_598 rfl ?_
          refine zw_push zr_0_599 ?_
          refine zw_16 zr_0_600 (by omega) ?_
          refine zw_100k zr_0_601 rfl (by omega) (by omega) ex148.symm ?_
          refine zw_7s zr_0_602 rfl ?_
          refine zw_3 zr_0_603 rfl ?_
          refine zw_push zr_0_604 ?_
          refine zw_16 zr_0_605 (by omega) ?_
          refine zw_100k zr_0_606 rfl (by omega) (by omega) ex149.symm ?_
          refine zw_7s zr_0_607 rfl ?_
          refine zw_3 zr_0_608 rfl ?_
          refine zw_push zr_0_609 ?_
          refine zw_16 zr_0_610 (by omega) ?_
          refine zw_100k zr_0_611 rfl (by omega) (by omega) ex150.symm ?_
          refine zw_C zr_0_612 (Or.inl rfl) zm_175 rfl rfl ⟨Nat.le_of_ble_eq_true rfl, Nat.le_of_ble_eq_true rfl, Nat.le_of_ble_eq_true rfl, rfl, by decide⟩ (by omega) (th_175 (d := d - 1) (by omega) hIm151 (a0 := x148) (a1 := x149) (a2 := x150)      (by omega) (by omega) (by omega) ) ?_
          rintro _ m153 ⟨r154, rfl, hr154a, hr154b, hIm153, gm153⟩
          have hFm153 : zFr W_0 m0 m153 := hFm151.trans gm153 rfl
          show zW E (d) 0 615 [(6, 0), (2, 0), (2, 69), (0, i2)] [(0, r154)] m153 Q
          have hkz155_0 := zk_fr hv0lp18_4 gm151
          have hkz155_1 := zk_fr hkz155_0 gm153
          refine zw_115 zr_0_615 rfl ?_
          refine zw_42 zr_0_616 ?_
          refine zw_15 (c := 6) (L' := [(6, 0), (2, 0), (2, 69), (0, (i2 + 6))]) zr_0_1238 rfl (by decide) (by omega) rfl ?_
          refine zw_42 zr_0_1241 ?_
          exact zw_less (L := [(6, 0), (2, 0), (2, 69), (0, (i2 + 6))]) ⟨Or.inr rfl, Or.inr rfl, Or.inr rfl, Or.inr rfl, trivial⟩ (ihlp18_4 ((i2 + 6)) m153 hIm153 hFm153   (by omega) (by omega) (by assumption) (by omega))
        by_cases h157 : x9 = 11
        · refine zw_111 (t := 619) zr_0_33 (by rw [h157]; rfl) ?_
          refine zw_7 zr_0_619 rfl ?_
          refine zw_7s zr_0_620 rfl ?_
          refine zw_3 zr_0_621 rfl ?_
          refine zw_push zr_0_622 ?_
          refine zw_16 zr_0_623 (by omega) ?_
          refine zw_100 zr_0_624 rfl (by omega) (by omega) ?_
          intro x158 ex158 hx158a hx158b
          refine zw_C zr_0_625 (Or.inl rfl) zm_113 rfl rfl ⟨Nat.le_of_ble_eq_true rfl, Nat.le_of_ble_eq_true rfl, Nat.le_of_ble_eq_true rfl, rfl, by decide⟩ (by omega) (th_113 (d := d - 1) (by omega) hIm3 (a0 := x158)      (by omega) ) ?_
          rintro _ m159 ⟨r160, rfl, hr160a, hr160b, hIm159, gm159⟩
          have hFm159 : zFr W_0 m0 m159 := hFm3.trans gm159 rfl
          show zW E (d) 0 628 [(6, 0), (2, 0), (2, 69), (0, i2)] [(0, r160)] m159 Q
          refine zw_115 zr_0_628 rfl ?_
          refine zw_7 zr_0_629 rfl ?_
          refine zw_7s zr_0_630 rfl ?_
          refine zw_3 zr_0_631 rfl ?_
          refine zw_push zr_0_632 ?_
          refine zw_16 zr_0_633 (by omega) ?_
          refine zw_100k zr_0_634 rfl (by omega) (by omega) ex158.symm ?_
          refine zw_C zr_0_635 (Or.inl rfl) zm_177 rfl rfl ⟨Nat.le_of_ble_eq_true rfl, Nat.le_of_ble_eq_true rfl, Nat.le_of_ble_eq_true rfl, rfl, by decide⟩ (by omega) (th_177 (d := d - 1) (by omega) hIm159 (a0 := x158)      (by omega) ) ?_
          rintro _ m161 ⟨r162, rfl, hr162a, hr162b, hIm161, gm161⟩
          have hFm161 : zFr W_0 m0 m161 := hFm159.trans gm161 rfl
          show zW E (d) 0 638 [(6, 0), (2, 0), (2, 69), (0, i2)] [(0, r162)] m161 Q
          have hkz163_0 := zk_fr hv0lp18_4 gm159
          have hkz163_1 := zk_fr hkz163_0 gm161
          refine zw_115 zr_0_638 rfl ?_
          refine zw_42 zr_0_639 ?_
          refine zw_15 (c := 6) (L' := [(6, 0), (2, 0), (2, 69), (0, (i2 + 6))]) zr_0_1238 rfl (by decide) (by omega) rfl ?_
          refine zw_42 zr_0_1241 ?_
          exact zw_less (L := [(6, 0), (2, 0), (2, 69), (0, (i2 + 6))]) ⟨Or.inr rfl, Or.inr rfl, Or.inr rfl, Or.inr rfl, trivial⟩ (ihlp18_4 ((i2 + 6)) m161 hIm161 hFm161   (by omega) (by omega) (by assumption) (by omega))
        by_cases h165 : x9 = 12
        · refine zw_111 (t := 642) zr_0_33 (by rw [h165]; rfl) ?_
          refine zw_7 zr_0_642 rfl ?_
          refine zw_C zr_0_643 (Or.inl rfl) zm_114 rfl rfl ⟨Nat.le_of_ble_eq_true rfl, Nat.le_of_ble_eq_true rfl, Nat.le_of_ble_eq_true rfl, rfl, by decide⟩ (by omega) (th_114 (d := d - 1) (by omega) hIm3        ) ?_
          rintro _ m166 ⟨r167, rfl, hr167a, hr167b, hIm166, gm166⟩
          have hFm166 : zFr W_0 m0 m166 := hFm3.trans gm166 rfl
          show zW E (d) 0 646 [(6, 0), (2, 0), (2, 69), (0, i2)] [(0, r167)] m166 Q
          refine zw_115 zr_0_646 rfl ?_
          refine zw_7 zr_0_647 rfl ?_
          refine zw_C zr_0_648 (Or.inl rfl) zm_178 rfl rfl ⟨Nat.le_of_ble_eq_true rfl, Nat.le_of_ble_eq_true rfl, Nat.le_of_ble_eq_true rfl, rfl, by decide⟩ (by omega) (th_178 (d := d - 1) (by omega) hIm166        ) ?_
          rintro _ m168 ⟨r169, rfl, hr169a, hr169b, hIm168, gm168⟩
          have hFm168 : zFr W_0 m0 m168 := hFm166.trans gm168 rfl
          show zW E (d) 0 651 [(6, 0), (2, 0), (2, 69), (0, i2)] [(0, r169)] m168 Q
          have hkz170_0 := zk_fr hv0lp18_4 gm166
          have hkz170_1 := zk_fr hkz170_0 gm168
          refine zw_115 zr_0_651 rfl ?_
          refine zw_42 zr_0_652 ?_
          refine zw_15 (c := 6) (L' := [(6, 0), (2, 0), (2, 69), (0, (i2 + 6))]) zr_0_1238 rfl (by decide) (by omega) rfl ?_
          refine zw_42 zr_0_1241 ?_
          exact zw_less (L := [(6, 0), (2, 0), (2, 69), (0, (i2 + 6))]) ⟨Or.inr rfl, Or.inr rfl, Or.inr rfl, Or.inr rfl, trivial⟩ (ihlp18_4 ((i2 + 6)) m168 hIm168 hFm168   (by omega) (by omega) (by assumption) (by omega))
        by_cases h172 : x9 = 13
        · refine zw_111 (t := 655) zr_0_33 (by rw [h172]; rfl) ?_
          refine zw_7 zr_0_655 rfl ?_
          refine zw_7s zr_0_656 rfl ?_
          refine zw_3 zr_0_657 rfl ?_
          refine zw_push zr_0_658 ?_
          refine zw_16 zr_0_659 (by omega) ?_
          refine zw_100 zr_0_660 rfl (by omega) (by omega) ?_
          intro x173 ex173 hx173a hx173b
          refine zw_7s zr_0_661 rfl ?_
          refine zw_3 zr_0_662 rfl ?_
          refine zw_push zr_0_663 ?_
          refine zw_16 zr_0_664 (by omega) ?_
          refine zw_100 zr_0_665 rfl (by omega) (by omega) ?_
          intro x174 ex174 hx174a hx174b
          refine zw_C zr_0_666 (Or.inl rfl) zm_115 rfl rfl ⟨Nat.le_of_ble_eq_true rfl, Nat.le_of_ble_eq_true rfl, Nat.le_of_ble_eq_true rfl, rfl, by decide⟩ (by omega) (th_115 (d := d - 1) (by omega) hIm3 (a0 := x173) (a1 := x174)   (F12 := m3 12)  rfl (by omega) (by omega) ) ?_
          rintro _ m175 ⟨r176, rfl, hr176a, hr176b, hIm175, gm175, po0_r176, po1_r176⟩
          have hFm175 : zFr W_0 m0 m175 := hFm3.trans gm175 rfl
          show zW E (d) 0 669 [(6, 0), (2, 0), (2, 69), (0, i2)] [(0, r176)] m175 Q
          refine zw_115 zr_0_669 rfl ?_
          refine zw_7 zr_0_670 rfl ?_
          refine zw_7s zr_0_671 rfl ?_
          refine zw_3 zr_0_672 rfl ?_
          refine zw_push zr_0_673 ?_
          refine zw_16 zr_0_674 (by omega) ?_
          refine zw_100k zr_0_675 rfl (by omega) (by omega) ex173.symm ?_
          refine zw_7s zr_0_676 rfl ?_
          refine zw_3 zr_0_677 rfl ?_
          refine zw_push zr_0_678 ?_
          refine zw_16 zr_0_679 (by omega) ?_
          refine zw_100k zr_0_680 rfl (by omega) (by omega) ex174.symm ?_
          refine zw_C zr_0_681 (Or.inl rfl) zm_179 rfl rfl ⟨Nat.le_of_ble_eq_true rfl, Nat.le_of_ble_eq_true rfl, Nat.le_of_ble_eq_true rfl, rfl, by decide⟩ (by omega) (th_179 (d := d - 1) (by omega) hIm175 (a0 := x173) (a1 := x174)   (F70 := m175 70)  rfl (by omega) (by omega) ) ?_
          rintro _ m177 ⟨r178, rfl, hr178a, hr178b, hIm177, gm177, po0_r178, po1_r178⟩
          have hFm177 : zFr W_0 m0 m177 := hFm175.trans gm177 rfl
          show zW E (d) 0 684 [(6, 0), (2, 0), (2, 69), (0, i2)] [(0, r178)] m177 Q
          obtain ⟨hkz179, hrz179⟩ := zk_shape hIm3 hv0lp18_4 gm175 po0_r176 po1_r176 gm177 po0_r178 po1_r178
          refine zw_115 zr_0_684 rfl ?_
          refine zw_42 zr_0_685 ?_
          refine zw_15 (c := 6) (L' := [(6, 0), (2, 0), (2, 69), (0, (i2 + 6))]) zr_0_1238 rfl (by decide) (by omega) rfl ?_
          refine zw_42 zr_0_1241 ?_
          exact zw_less (L := [(6, 0), (2, 0), (2, 69), (0, (i2 + 6))]) ⟨Or.inr rfl, Or.inr rfl, Or.inr rfl, Or.inr rfl, trivial⟩ (ihlp18_4 ((i2 + 6)) m177 hIm177 hFm177   (by omega) (by omega) (by assumption) (by omega))
        by_cases h181 : x9 = 14
        · refine zw_111 (t := 688) zr_0_33 (by rw [h181]; rfl) ?_
          refine zw_7 zr_0_688 rfl ?_
          refine zw_7s zr_0_689 rfl ?_
          refine zw_3 zr_0_690 rfl ?_
          refine zw_push zr_0_691 ?_
          refine zw_16 zr_0_692 (by omega) ?_
          refine zw_100 zr_0_693 rfl (by omega) (by omega) ?_
          intro x182 ex182 hx182a hx182b
          refine zw_7s zr_0_694 rfl ?_
          refine zw_3 zr_0_695 rfl ?_
          refine zw_push zr_0_696 ?_
          refine zw_16 zr_0_697 (by omega) ?_
          refine zw_100 zr_0_698 rfl (by omega) (by omega) ?_
          intro x183 ex183 hx183a hx183b
          obtain ⟨f184, ef184⟩ : ∃ v, m3 1 4 = v := ⟨_, rfl⟩
          have bf184 := ib_1_4 hIm3
          rw [ef184] at bf184
          obtain ⟨f185, ef185⟩ : ∃ v, m3 1 5 = v := ⟨_, rfl⟩
          have bf185 := ib_1_5 hIm3
          rw [ef185] at bf185
          refine zw_C zr_0_699 (Or.inl rfl) zm_116 rfl rfl ⟨Nat.le_of_ble_eq_true rfl, Nat.le_of_ble_eq_true rfl, Nat.le_of_ble_eq_true rfl, rfl, by decide⟩ (by omega) (th_116 (d := d - 1) (by omega) hIm3 (a0 := x182) (a1 := x183) (g0 := f184) (g1 := f185)   ef184 ef185  (by omega) (by omega) ) ?_
          rintro _ m186 ⟨r187, rfl, hr187a, hr187b, hIm186, gm186, po0_r187, po1_r187⟩
          have hFm186 : zFr W_0 m0 m186 := hFm3.trans gm186 rfl
          show zW E (d) 0 702 [(6, 0), (2, 0), (2, 69), (0, i2)] [(0, r187)] m186 Q
          refine zw_115 zr_0_702 rfl ?_
          refine zw_7 zr_0_703 rfl ?_
          refine zw_7s zr_0_704 rfl ?_
          refine zw_3 zr_0_705 rfl ?_
          refine zw_push zr_0_706 ?_
          refine zw_16 zr_0_707 (by omega) ?_
          refine zw_100k zr_0_708 rfl (by omega) (by omega) ex182.symm ?_
          refine zw_7s zr_0_709 rfl ?_
          refine zw_3 zr_0_710 rfl ?_
          refine zw_push zr_0_711 ?_
          refine zw_16 zr_0_712 (by omega) ?_
          refine zw_100k zr_0_713 rfl (by omega) (by omega) ex183.symm ?_
          refine zw_C zr_0_714 (Or.inl rfl) zm_180 rfl rfl ⟨Nat.le_of_ble_eq_true rfl, Nat.le_of_ble_eq_true rfl, Nat.le_of_ble_eq_true rfl, rfl, by decide⟩ (by omega) (th_180 (d := d - 1) (by omega) hIm186 (a0 := x182) (a1 := x183)   (F70 := m186 70)  rfl (by omega) (by omega) ) ?_
          rintro _ m188 ⟨r189, rfl, hr189a, hr189b, hIm188, gm188, po0_r189, po1_r189⟩
          have hFm188 : zFr W_0 m0 m188 := hFm186.trans gm188 rfl
          show zW E (d) 0 717 [(6, 0), (2, 0), (2, 69), (0, i2)] [(0, r189)] m188 Q
          obtain ⟨hkz190, hrz190⟩ := zk_wide hIm3 hv0lp18_4 gm186 ef184 ef185 po0_r187 po1_r187 gm188 po0_r189 po1_r189
          refine zw_115 zr_0_717 rfl ?_
          refine zw_42 zr_0_718 ?_
          refine zw_15 (c := 6) (L' := [(6, 0), (2, 0), (2, 69), (0, (i2 + 6))]) zr_0_1238 rfl (by decide) (by omega) rfl ?_
          refine zw_42 zr_0_1241 ?_
          exact zw_less (L := [(6, 0), (2, 0), (2, 69), (0, (i2 + 6))]) ⟨Or.inr rfl, Or.inr rfl, Or.inr rfl, Or.inr rfl, trivial⟩ (ihlp18_4 ((i2 + 6)) m188 hIm188 hFm188   (by omega) (by omega) (by assumption) (by omega))
        by_cases h192 : x9 = 15
        · refine zw_111 (t := 721) zr_0_33 (by rw [h192]; rfl) ?_
          refine zw_7 zr_0_721 rfl ?_
          obtain ⟨f193, ef193⟩ : ∃ v, m3 1 0 = v := ⟨_, rfl⟩
          have bf193 := ib_1_0 hIm3
          rw [ef193] at bf193
          obtain ⟨f194, ef194⟩ : ∃ v, m3 1 1 = v := ⟨_, rfl⟩
          have bf194 := ib_1_1 hIm3
          rw [ef194] at bf194
          obtain ⟨f195, ef195⟩ : ∃ v, m3 1 2 = v := ⟨_, rfl⟩
          have bf195 := ib_1_2 hIm3
          rw [ef195] at bf195
          obtain ⟨f196, ef196⟩ : ∃ v, m3 1 3 = v := ⟨_, rfl⟩
          have bf196 := ib_1_3 hIm3
          rw [ef196] at bf196
          obtain ⟨f197, ef197⟩ : ∃ v, m3 1 4 = v := ⟨_, rfl⟩
          have bf197 := ib_1_4 hIm3
          rw [ef197] at bf197
          obtain ⟨f198, ef198⟩ : ∃ v, m3 1 5 = v := ⟨_, rfl⟩
          have bf198 := ib_1_5 hIm3
          rw [ef198] at bf198
          refine zw_C zr_0_722 (Or.inl rfl) zm_117 rfl rfl ⟨Nat.le_of_ble_eq_true rfl, Nat.le_of_ble_eq_true rfl, Nat.le_of_ble_eq_true rfl, rfl, by decide⟩ (by omega) (th_117 (d := d - 1) (by omega) hIm3  (g0 := f193) (g1 := f194) (g2 := f195) (g3 := f196) (g4 := f197) (g5 := f198)  (F2 := m3 2) (F5 := m3 5) (F6 := m3 6) (F7 := m3 7) (F8 := m3 8) (F12 := m3 12) ef193 ef194 ef195 ef196 ef197 ef198 rfl rfl rfl rfl rfl rfl  (qK_pl hv0lp18_4 ef194 ef193)) ?_
          rintro _ m200 ⟨r201, rfl, hr201a, hr201b, hIm200, gm200, po0_r201⟩
          have hFm200 : zFr W_0 m0 m200 := hFm3.trans gm200 rfl
          have km200_1_0 : m200 1 0 = f193 := (gm200 1 0 rfl).trans ef193
          have km200_1_1 : m200 1 1 = f194 := (gm200 1 1 rfl).trans ef194
          have km200_1_2 : m200 1 2 = f195 := (gm200 1 2 rfl).trans ef195
          have km200_1_3 : m200 1 3 = f196 := (gm200 1 3 rfl).trans ef196
          have km200_1_4 : m200 1 4 = f197 := (gm200 1 4 rfl).trans ef197
          have km200_1_5 : m200 1 5 = f198 := (gm200 1 5 rfl).trans ef198
          show zW E (d) 0 725 [(6, 0), (2, 0), (2, 69), (0, i2)] [(0, r201)] m200 Q
          refine zw_115 zr_0_725 rfl ?_
          refine zw_7 zr_0_726 rfl ?_
          obtain ⟨f202, ef202⟩ : ∃ v, m200 70 823 = v := ⟨_, rfl⟩
          have bf202 : 0 ≤ m200 70 823 ∧ m200 70 823 ≤ 60 := ib_70_meetings hIm200 (by omega)
          rw [ef202] at bf202
          refine zw_C zr_0_727 (Or.inl rfl) zm_185 rfl rfl ⟨Nat.le_of_ble_eq_true rfl, Nat.le_of_ble_eq_true rfl, Nat.le_of_ble_eq_true rfl, rfl, by decide⟩ (by omega) (th_185 (d := d - 1) (by omega) hIm200  (g0 := f202)  (F70 := m200 70) ef202 rfl  (qK_ne (zk_fr hv0lp18_4 gm200) ef202)) ?_
          rintro _ m204 ⟨r205, rfl, hr205a, hr205b, hIm204, gm204, po0_r205⟩
          have hFm204 : zFr W_0 m0 m204 := hFm200.trans gm204 rfl
          have km204_1_0 : m204 1 0 = f193 := (gm204 1 0 rfl).trans km200_1_0
          have km204_1_1 : m204 1 1 = f194 := (gm204 1 1 rfl).trans km200_1_1
          have km204_1_2 : m204 1 2 = f195 := (gm204 1 2 rfl).trans km200_1_2
          have km204_1_3 : m204 1 3 = f196 := (gm204 1 3 rfl).trans km200_1_3
          have km204_1_4 : m204 1 4 = f197 := (gm204 1 4 rfl).trans km200_1_4
          have km204_1_5 : m204 1 5 = f198 := (gm204 1 5 rfl).trans km200_1_5
          have km204_70_823 : m204 70 823 = f202 := (gm204 70 823 rfl).trans ef202
          show zW E (d) 0 730 [(6, 0), (2, 0), (2, 69), (0, i2)] [(0, r205)] m204 Q
          have hkz206_0 := zk_fr hv0lp18_4 gm200
          have hkz206_1 := zk_fr hkz206_0 gm204
          have hqz207 := zq_quarrel hIm3 hv0lp18_4 gm200 ef193 ef194 ef195 ef196 ef197 ef198 po0_r201 ef202 po0_r205
          refine zw_115 zr_0_730 rfl ?_
          refine zw_42 zr_0_731 ?_
          refine zw_15 (c := 6) (L' := [(6, 0), (2, 0), (2, 69), (0, (i2 + 6))]) zr_0_1238 rfl (by decide) (by omega) rfl ?_
          refine zw_42 zr_0_1241 ?_
          exact zw_less (L := [(6, 0), (2, 0), (2, 69), (0, (i2 + 6))]) ⟨Or.inr rfl, Or.inr rfl, Or.inr rfl, Or.inr rfl, trivial⟩ (ihlp18_4 ((i2 + 6)) m204 hIm204 hFm204   (by omega) (by omega) (by assumption) (by omega))
        by_cases h209 : x9 = 16
        · refine zw_111 (t := 734) zr_0_33 (by rw [h209]; rfl) ?_
          refine zw_7 zr_0_734 rfl ?_
          refine zw_7s zr_0_735 rfl ?_
          refine zw_3 zr_0_736 rfl ?_
          refine zw_push zr_0_737 ?_
          refine zw_16 zr_0_738 (by omega) ?_
          refine zw_100 zr_0_739 rfl (by omega) (by omega) ?_
          intro x210 ex210 hx210a hx210b
          refine zw_7s zr_0_740 rfl ?_
          refine zw_3 zr_0_741 rfl ?_
          refine zw_push zr_0_742 ?_
          refine zw_16 zr_0_743 (by omega) ?_
          refine zw_100 zr_0_744 rfl (by omega) (by omega) ?_
          intro x211 ex211 hx211a hx211b
          refine zw_7s zr_0_745 rfl ?_
          refine zw_3 zr_0_746 rfl ?_
          refine zw_push zr_0_747 ?_
          refine zw_16 zr_0_748 (by omega) ?_
          refine zw_100 zr_0_749 rfl (by omega) (by omega) ?_
          intro x212 ex212 hx212a hx212b
          obtain ⟨f213, ef213⟩ : ∃ v, m3 1 0 = v := ⟨_, rfl⟩
          have bf213 := ib_1_0 hIm3
          rw [ef213] at bf213
          obtain ⟨f214, ef214⟩ : ∃ v, m3 1 1 = v := ⟨_, rfl⟩
          have bf214 := ib_1_1 hIm3
          rw [ef214] at bf214
          obtain ⟨f215, ef215⟩ : ∃ v, m3 1 2 = v := ⟨_, rfl⟩
          have bf215 := ib_1_2 hIm3
          rw [ef215] at bf215
          obtain ⟨f216, ef216⟩ : ∃ v, m3 1 3 = v := ⟨_, rfl⟩
          have bf216 := ib_1_3 hIm3
          rw [ef216] at bf216
          obtain ⟨f217, ef217⟩ : ∃ v, m3 1 4 = v := ⟨_, rfl⟩
          have bf217 := ib_1_4 hIm3
          rw [ef217] at bf217
          obtain ⟨f218, ef218⟩ : ∃ v, m3 1 5 = v := ⟨_, rfl⟩
          have bf218 := ib_1_5 hIm3
          rw [ef218] at bf218
          refine zw_C zr_0_750 (Or.inl rfl) zm_118 rfl rfl ⟨Nat.le_of_ble_eq_true rfl, Nat.le_of_ble_eq_true rfl, Nat.le_of_ble_eq_true rfl, rfl, by decide⟩ (by omega) (th_118 (d := d - 1) (by omega) hIm3 (a0 := x210) (a1 := x211) (a2 := x212) (g0 := f213) (g1 := f214) (g2 := f215) (g3 := f216) (g4 := f217) (g5 := f218)  (F2 := m3 2) (F5 := m3 5) (F6 := m3 6) (F7 := m3 7) (F8 := m3 8) (F12 := m3 12) ef213 ef214 ef215 ef216 ef217 ef218 rfl rfl rfl rfl rfl rfl (by omega) (by omega) (by omega) (qK_pl hv0lp18_4 ef214 ef213)) ?_
          rintro _ m220 ⟨r221, rfl, hr221a, hr221b, hIm220, gm220, po0_r221⟩
          have hFm220 : zFr W_0 m0 m220 := hFm3.trans gm220 rfl
          have km220_1_0 : m220 1 0 = f213 := (gm220 1 0 rfl).trans ef213
          have km220_1_1 : m220 1 1 = f214 := (gm220 1 1 rfl).trans ef214
          have km220_1_2 : m220 1 2 = f215 := (gm220 1 2 rfl).trans ef215
          have km220_1_3 : m220 1 3 = f216 := (gm220 1 3 rfl).trans ef216
          have km220_1_4 : m220 1 4 = f217 := (gm220 1 4 rfl).trans ef217
          have km220_1_5 : m220 1 5 = f218 := (gm220 1 5 rfl).trans ef218
          show zW E (d) 0 753 [(6, 0), (2, 0), (2, 69), (0, i2)] [(0, r221)] m220 Q
          refine zw_7 zr_0_753 rfl ?_
          refine zw_7s zr_0_754 rfl ?_
          refine zw_3 zr_0_755 rfl ?_
          refine zw_push zr_0_756 ?_
          refine zw_16 zr_0_757 (by omega) ?_
          refine zw_100k zr_0_758 rfl (by omega) (by omega) ex210.symm ?_
          refine zw_7s zr_0_759 rfl ?_
          refine zw_3 zr_0_760 rfl ?_
          refine zw_push zr_0_761 ?_
          refine zw_16 zr_0_762 (by omega) ?_
          refine zw_100k zr_0_763 rfl (by omega) (by omega) ex211.symm ?_
          refine zw_7s zr_0_764 rfl ?_
          refine zw_3 zr_0_765 rfl ?_
          refine zw_push zr_0_766 ?_
          refine zw_16 zr_0_767 (by omega) ?_
          refine zw_100k zr_0_768 rfl (by omega) (by omega) ex212.symm ?_
          obtain ⟨f222, ef222⟩ : ∃ v, m220 70 822 = v := ⟨_, rfl⟩
          have bf222 : 0 ≤ m220 70 822 ∧ m220 70 822 ≤ 10 := ib_70_players hIm220 (by omega)
          rw [ef222] at bf222
          obtain ⟨f223, ef223⟩ : ∃ v, m220 70 823 = v := ⟨_, rfl⟩
          have bf223 : 0 ≤ m220 70 823 ∧ m220 70 823 ≤ 60 := ib_70_meetings hIm220 (by omega)
          rw [ef223] at bf223
          refine zw_C zr_0_769 (Or.inl rfl) zm_186 rfl rfl ⟨Nat.le_of_ble_eq_true rfl, Nat.le_of_ble_eq_true rfl, Nat.le_of_ble_eq_true rfl, rfl, by decide⟩ (by omega) (th_186 (d := d - 1) (by omega) hIm220 (a0 := x210) (a1 := x211) (a2 := x212) (g0 := f222) (g1 := f223)  (F70 := m220 70) (F80 := m220 80) ef222 ef223 rfl rfl (by omega) (by omega) (by omega) (qK_ne (zk_fr hv0lp18_4 gm220) ef223)) ?_
          rintro _ m225 ⟨r226, rfl, hr226a, hr226b, hIm225, gm225, po0_r226⟩
          have hFm225 : zFr W_0 m0 m225 := hFm220.trans gm225 rfl
          have km225_1_0 : m225 1 0 = f213 := (gm225 1 0 rfl).trans km220_1_0
          have km225_1_1 : m225 1 1 = f214 := (gm225 1 1 rfl).trans km220_1_1
          have km225_1_2 : m225 1 2 = f215 := (gm225 1 2 rfl).trans km220_1_2
          have km225_1_3 : m225 1 3 = f216 := (gm225 1 3 rfl).trans km220_1_3
          have km225_1_4 : m225 1 4 = f217 := (gm225 1 4 rfl).trans km220_1_4
          have km225_1_5 : m225 1 5 = f218 := (gm225 1 5 rfl).trans km220_1_5
          have km225_70_822 : m225 70 822 = f222 := (gm225 70 822 rfl).trans ef222
          have km225_70_823 : m225 70 823 = f223 := (gm225 70 823 rfl).trans ef223
          show zW E (d) 0 772 [(6, 0), (2, 0), (2, 69), (0, i2)] [(0, r226), (0, r221)] m225 Q
          have hkz227_0 := zk_fr hv0lp18_4 gm220
          have hkz227_1 := zk_fr hkz227_0 gm225
          have hqz228 := zq_span hIm3 hv0lp18_4 gm220 ef213 ef214 ef215 ef216 ef217 ef218 po0_r221 ef222 ef223 po0_r226
          refine zw_41_1 zr_0_772 ?_ ?_
          · intro h229
            refine zw_15 (c := 6) (L' := [(6, 0), (2, 0), (2, 69), (0, (i2 + 6))]) zr_0_1238 rfl (by decide) (by omega) rfl ?_
            refine zw_42 zr_0_1241 ?_
            exact zw_less (L := [(6, 0), (2, 0), (2, 69), (0, (i2 + 6))]) ⟨Or.inr rfl, Or.inr rfl, Or.inr rfl, Or.inr rfl, trivial⟩ (ihlp18_4 ((i2 + 6)) m225 hIm225 hFm225   (by omega) (by omega) (by assumption) (by omega))
          · intro h231
            refine zw_push zr_0_775 ?_
            refine zw_R zr_0_776 (by decide) zm_0 (v := (0, 0)) (zRetB (by omega)) ?_
            rw [← hQ]; exact ⟨_, rfl, by omega, by omega, hIm225, hFm225⟩
        by_cases h232 : x9 = 17
        · refine zw_111 (t := 777) zr_0_33 (by rw [h232]; rfl) ?_
          refine zw_7 zr_0_777 rfl ?_
          obtain ⟨f233, ef233⟩ : ∃ v, m3 1 0 = v := ⟨_, rfl⟩
          have bf233 := ib_1_0 hIm3
          rw [ef233] at bf233
          obtain ⟨f234, ef234⟩ : ∃ v, m3 1 1 = v := ⟨_, rfl⟩
          have bf234 := ib_1_1 hIm3
          rw [ef234] at bf234
          refine zw_C zr_0_778 (Or.inl rfl) zm_119 rfl rfl ⟨Nat.le_of_ble_eq_true rfl, Nat.le_of_ble_eq_true rfl, Nat.le_of_ble_eq_true rfl, rfl, by decide⟩ (by omega) (th_119 (d := d - 1) (by omega) hIm3  (g0 := f233) (g1 := f234)  (F6 := m3 6) (F7 := m3 7) ef233 ef234 rfl rfl  (qK_pl hv0lp18_4 ef234 ef233)) ?_
          rintro _ m236 ⟨r237, rfl, hr237a, hr237b, hIm236, gm236⟩
          have hFm236 : zFr W_0 m0 m236 := hFm3.trans gm236 rfl
          have km236_1_0 : m236 1 0 = f233 := (gm236 1 0 rfl).trans ef233
          have km236_1_1 : m236 1 1 = f234 := (gm236 1 1 rfl).trans ef234
          show zW E (d) 0 781 [(6, 0), (2, 0), (2, 69), (0, i2)] [(1, r237)] m236 Q
          refine zw_116 zr_0_781 rfl ?_
          refine zw_7 zr_0_782 rfl ?_
          obtain ⟨f238, ef238⟩ : ∃ v, m236 70 823 = v := ⟨_, rfl⟩
          have bf238 : 0 ≤ m236 70 823 ∧ m236 70 823 ≤ 60 := ib_70_meetings hIm236 (by omega)
          rw [ef238] at bf238
          refine zw_C zr_0_783 (Or.inl rfl) zm_187 rfl rfl ⟨Nat.le_of_ble_eq_true rfl, Nat.le_of_ble_eq_true rfl, Nat.le_of_ble_eq_true rfl, rfl, by decide⟩ (by omega) (th_187 (d := d - 1) (by omega) hIm236  (g0 := f238)  (F70 := m236 70) ef238 rfl  (qK_ne (zk_fr hv0lp18_4 gm236) ef238)) ?_
          rintro _ m240 ⟨r241, rfl, hr241a, hr241b, hIm240, gm240⟩
          have hFm240 : zFr W_0 m0 m240 := hFm236.trans gm240 rfl
          have km240_1_0 : m240 1 0 = f233 := (gm240 1 0 rfl).trans km236_1_0
          have km240_1_1 : m240 1 1 = f234 := (gm240 1 1 rfl).trans km236_1_1
          have km240_70_823 : m240 70 823 = f238 := (gm240 70 823 rfl).trans ef238
          show zW E (d) 0 786 [(6, 0), (2, 0), (2, 69), (0, i2)] [(1, r241)] m240 Q
          have hkz242_0 := zk_fr hv0lp18_4 gm236
          have hkz242_1 := zk_fr hkz242_0 gm240
          refine zw_116 zr_0_786 rfl ?_
          refine zw_42 zr_0_787 ?_
          refine zw_15 (c := 6) (L' := [(6, 0), (2, 0), (2, 69), (0, (i2 + 6))]) zr_0_1238 rfl (by decide) (by omega) rfl ?_
          refine zw_42 zr_0_1241 ?_
          exact zw_less (L := [(6, 0), (2, 0), (2, 69), (0, (i2 + 6))]) ⟨Or.inr rfl, Or.inr rfl, Or.inr rfl, Or.inr rfl, trivial⟩ (ihlp18_4 ((i2 + 6)) m240 hIm240 hFm240   (by omega) (by omega) (by assumption) (by omega))
        by_cases h244 : x9 = 18
        · refine zw_111 (t := 790) zr_0_33 (by rw [h244]; rfl) ?_
          refine zw_7 zr_0_790 rfl ?_
          refine zw_7s zr_0_791 rfl ?_
          refine zw_3 zr_0_792 rfl ?_
          refine zw_push zr_0_793 ?_
          refine zw_16 zr_0_794 (by omega) ?_
          refine zw_100 zr_0_795 rfl (by omega) (by omega) ?_
          intro x245 ex245 hx245a hx245b
          obtain ⟨f246, ef246⟩ : ∃ v, m3 1 0 = v := ⟨_, rfl⟩
          have bf246 := ib_1_0 hIm3
          rw [ef246] at bf246
          obtain ⟨f247, ef247⟩ : ∃ v, m3 1 1 = v := ⟨_, rfl⟩
          have bf247 := ib_1_1 hIm3
          rw [ef247] at bf247
          obtain ⟨f248, ef248⟩ : ∃ v, m3 1 2 = v := ⟨_, rfl⟩
          have bf248 := ib_1_2 hIm3
          rw [ef248] at bf248
          obtain ⟨f249, ef249⟩ : ∃ v, m3 1 3 = v := ⟨_, rfl⟩
          have bf249 := ib_1_3 hIm3
          rw [ef249] at bf249
          refine zw_C zr_0_796 (Or.inl rfl) zm_120 rfl rfl ⟨Nat.le_of_ble_eq_true rfl, Nat.le_of_ble_eq_true rfl, Nat.le_of_ble_eq_true rfl, rfl, by decide⟩ (by omega) (th_120 (d := d - 1) (by omega) hIm3 (a0 := x245) (g0 := f246) (g1 := f247) (g2 := f248) (g3 := f249)  (F6 := m3 6) (F7 := m3 7) ef246 ef247 ef248 ef249 rfl rfl (by omega) ) ?_
          rintro _ m250 ⟨r251, rfl, hr251a, hr251b, hIm250, gm250, po0_r251⟩
          have hFm250 : zFr W_0 m0 m250 := hFm3.trans gm250 rfl
          have km250_1_0 : m250 1 0 = f246 := (gm250 1 0 rfl).trans ef246
          have km250_1_1 : m250 1 1 = f247 := (gm250 1 1 rfl).trans ef247
          have km250_1_2 : m250 1 2 = f248 := (gm250 1 2 rfl).trans ef248
          have km250_1_3 : m250 1 3 = f249 := (gm250 1 3 rfl).trans ef249
          show zW E (d) 0 799 [(6, 0), (2, 0), (2, 69), (0, i2)] [(0, r251)] m250 Q
          refine zw_115 zr_0_799 rfl ?_
          refine zw_7 zr_0_800 rfl ?_
          refine zw_7s zr_0_801 rfl ?_
          refine zw_3 zr_0_802 rfl ?_
          refine zw_push zr_0_803 ?_
          refine zw_16 zr_0_804 (by omega) ?_
          refine zw_100k zr_0_805 rfl (by omega) (by omega) ex245.symm ?_
          obtain ⟨f252, ef252⟩ : ∃ v, m250 70 822 = v := ⟨_, rfl⟩
          have bf252 : 0 ≤ m250 70 822 ∧ m250 70 822 ≤ 10 := ib_70_players hIm250 (by omega)
          rw [ef252] at bf252
          obtain ⟨f253, ef253⟩ : ∃ v, m250 70 823 = v := ⟨_, rfl⟩
          have bf253 : 0 ≤ m250 70 823 ∧ m250 70 823 ≤ 60 := ib_70_meetings hIm250 (by omega)
          rw [ef253] at bf253
          refine zw_C zr_0_806 (Or.inl rfl) zm_190 rfl rfl ⟨Nat.le_of_ble_eq_true rfl, Nat.le_of_ble_eq_true rfl, Nat.le_of_ble_eq_true rfl, rfl, by decide⟩ (by omega) (th_190 (d := d - 1) (by omega) hIm250 (a0 := x245) (g0 := f252) (g1 := f253)  (F70 := m250 70) ef252 ef253 rfl (by omega) ) ?_
          rintro _ m254 ⟨r255, rfl, hr255a, hr255b, hIm254, gm254, po0_r255⟩
          have hFm254 : zFr W_0 m0 m254 := hFm250.trans gm254 rfl
          have km254_1_0 : m254 1 0 = f246 := (gm254 1 0 rfl).trans km250_1_0
          have km254_1_1 : m254 1 1 = f247 := (gm254 1 1 rfl).trans km250_1_1
          have km254_1_2 : m254 1 2 = f248 := (gm254 1 2 rfl).trans km250_1_2
          have km254_1_3 : m254 1 3 = f249 := (gm254 1 3 rfl).trans km250_1_3
          have km254_70_822 : m254 70 822 = f252 := (gm254 70 822 rfl).trans ef252
          have km254_70_823 : m254 70 823 = f253 := (gm254 70 823 rfl).trans ef253
          show zW E (d) 0 809 [(6, 0), (2, 0), (2, 69), (0, i2)] [(0, r255)] m254 Q
          have hkz256_0 := zk_fr hv0lp18_4 gm250
          have hkz256_1 := zk_fr hkz256_0 gm254
          have hqz257 := zq_island hIm3 hv0lp18_4 gm250 ef246 ef247 ef248 ef249 po0_r251 ef252 ef253 po0_r255
          refine zw_115 zr_0_809 rfl ?_
          refine zw_42 zr_0_810 ?_
          refine zw_15 (c := 6) (L' := [(6, 0), (2, 0), (2, 69), (0, (i2 + 6))]) zr_0_1238 rfl (by decide) (by omega) rfl ?_
          refine zw_42 zr_0_1241 ?_
          exact zw_less (L := [(6, 0), (2, 0), (2, 69), (0, (i2 + 6))]) ⟨Or.inr rfl, Or.inr rfl, Or.inr rfl, Or.inr rfl, trivial⟩ (ihlp18_4 ((i2 + 6)) m254 hIm254 hFm254   (by omega) (by omega) (by assumption) (by omega))
        by_cases h259 : x9 = 19
        · refine zw_111 (t := 813) zr_0_33 (by rw [h259]; rfl) ?_
          refine zw_7 zr_0_813 rfl ?_
          refine zw_7s zr_0_814 rfl ?_
          refine zw_3 zr_0_815 rfl ?_
          refine zw_push zr_0_816 ?_
          refine zw_16 zr_0_817 (by omega) ?_
          refine zw_100 zr_0_818 rfl (by omega) (by omega) ?_
          intro x260 ex260 hx260a hx260b
          refine zw_7s zr_0_819 rfl ?_
          refine zw_3 zr_0_820 rfl ?_
          refine zw_push zr_0_821 ?_
          refine zw_16 zr_0_822 (by omega) ?_
          refine zw_100 zr_0_823 rfl (by omega) (by omega) ?_
          intro x261 ex261 hx261a hx261b
          refine zw_7s zr_0_824 rfl ?_
          refine zw_3 zr_0_825 rfl ?_
          refine zw_push zr_0_826 ?_
          refine zw_16 zr_0_827 (by omega) ?_
          refine zw_100 zr_0_828 rfl (by omega) (by omega) ?_
          intro x262 ex262 hx262a hx262b
          obtain ⟨f263, ef263⟩ : ∃ v, m3 1 0 = v := ⟨_, rfl⟩
          have bf263 := ib_1_0 hIm3
          rw [ef263] at bf263
          obtain ⟨f264, ef264⟩ : ∃ v, m3 1 1 = v := ⟨_, rfl⟩
          have bf264 := ib_1_1 hIm3
          rw [ef264] at bf264
          obtain ⟨f265, ef265⟩ : ∃ v, m3 1 2 = v := ⟨_, rfl⟩
          have bf265 := ib_1_2 hIm3
          rw [ef265] at bf265
          obtain ⟨f266, ef266⟩ : ∃ v, m3 1 3 = v := ⟨_, rfl⟩
          have bf266 := ib_1_3 hIm3
          rw [ef266] at bf266
          refine zw_C zr_0_829 (Or.inl rfl) zm_121 rfl rfl ⟨Nat.le_of_ble_eq_true rfl, Nat.le_of_ble_eq_true rfl, Nat.le_of_ble_eq_true rfl, rfl, by decide⟩ (by omega) (th_121 (d := d - 1) (by omega) hIm3 (a0 := x260) (a1 := x261) (a2 := x262) (g0 := f263) (g1 := f264) (g2 := f265) (g3 := f266)  (F6 := m3 6) (F7 := m3 7) (F61 := m3 61) (F62 := m3 62) ef263 ef264 ef265 ef266 rfl rfl rfl rfl (by omega) (by omega) (by omega) (qK_pl hv0lp18_4 ef264 ef263)) ?_
          rintro _ m268 ⟨r269, rfl, hr269a, hr269b, hIm268, gm268, po0_r269⟩
          have hFm268 : zFr W_0 m0 m268 := hFm3.trans gm268 rfl
          have km268_1_0 : m268 1 0 = f263 := (gm268 1 0 rfl).trans ef263
          have km268_1_1 : m268 1 1 = f264 := (gm268 1 1 rfl).trans ef264
          have km268_1_2 : m268 1 2 = f265 := (gm268 1 2 rfl).trans ef265
          have km268_1_3 : m268 1 3 = f266 := (gm268 1 3 rfl).trans ef266
          show zW E (d) 0 832 [(6, 0), (2, 0), (2, 69), (0, i2)] [(0, r269)] m268 Q
          refine zw_115 zr_0_832 rfl ?_
          refine zw_7 zr_0_833 rfl ?_
          refine zw_7s zr_0_834 rfl ?_
          refine zw_3 zr_0_835 rfl ?_
          refine zw_push zr_0_836 ?_
          refine zw_16 zr_0_837 (by omega) ?_
          refine zw_100k zr_0_838 rfl (by omega) (by omega) ex260.symm ?_
          refine zw_7s zr_0_839 rfl ?_
          refine zw_3 zr_0_840 rfl ?_
          refine zw_push zr_0_841 ?_
          refine zw_16 zr_0_842 (by omega) ?_
          refine zw_100k zr_0_843 rfl (by omega) (by omega) ex261.symm ?_
          refine zw_7s zr_0_844 rfl ?_
          refine zw_3 zr_0_845 rfl ?_
          refine zw_push zr_0_846 ?_
          refine zw_16 zr_0_847 (by omega) ?_
          refine zw_100k zr_0_848 rfl (by omega) (by omega) ex262.symm ?_
          obtain ⟨f270, ef270⟩ : ∃ v, m268 70 822 = v := ⟨_, rfl⟩
          have bf270 : 0 ≤ m268 70 822 ∧ m268 70 822 ≤ 10 := ib_70_players hIm268 (by omega)
          rw [ef270] at bf270
          obtain ⟨f271, ef271⟩ : ∃ v, m268 70 823 = v := ⟨_, rfl⟩
          have bf271 : 0 ≤ m268 70 823 ∧ m268 70 823 ≤ 60 := ib_70_meetings hIm268 (by omega)
          rw [ef271] at bf271
          refine zw_C zr_0_849 (Or.inl rfl) zm_191 rfl rfl ⟨Nat.le_of_ble_eq_true rfl, Nat.le_of_ble_eq_true rfl, Nat.le_of_ble_eq_true rfl, rfl, by decide⟩ (by omega) (th_191 (d := d - 1) (by omega) hIm268 (a0 := x260) (a1 := x261) (a2 := x262) (g0 := f270) (g1 := f271)  (F70 := m268 70) (F81 := m268 81) ef270 ef271 rfl rfl (by omega) (by omega) (by omega) ) ?_
          rintro _ m272 ⟨r273, rfl, hr273a, hr273b, hIm272, gm272, po0_r273⟩
          have hFm272 : zFr W_0 m0 m272 := hFm268.trans gm272 rfl
          have km272_1_0 : m272 1 0 = f263 := (gm272 1 0 rfl).trans km268_1_0
          have km272_1_1 : m272 1 1 = f264 := (gm272 1 1 rfl).trans km268_1_1
          have km272_1_2 : m272 1 2 = f265 := (gm272 1 2 rfl).trans km268_1_2
          have km272_1_3 : m272 1 3 = f266 := (gm272 1 3 rfl).trans km268_1_3
          have km272_70_822 : m272 70 822 = f270 := (gm272 70 822 rfl).trans ef270
          have km272_70_823 : m272 70 823 = f271 := (gm272 70 823 rfl).trans ef271
          show zW E (d) 0 852 [(6, 0), (2, 0), (2, 69), (0, i2)] [(0, r273)] m272 Q
          have hkz274_0 := zk_fr hv0lp18_4 gm268
          have hkz274_1 := zk_fr hkz274_0 gm272
          have hqz275 := zq_rope hIm3 hv0lp18_4 gm268 ef263 ef264 ef265 ef266 po0_r269 ef270 ef271 po0_r273
          refine zw_115 zr_0_852 rfl ?_
          refine zw_42 zr_0_853 ?_
          refine zw_15 (c := 6) (L' := [(6, 0), (2, 0), (2, 69), (0, (i2 + 6))]) zr_0_1238 rfl (by decide) (by omega) rfl ?_
          refine zw_42 zr_0_1241 ?_
          exact zw_less (L := [(6, 0), (2, 0), (2, 69), (0, (i2 + 6))]) ⟨Or.inr rfl, Or.inr rfl, Or.inr rfl, Or.inr rfl, trivial⟩ (ihlp18_4 ((i2 + 6)) m272 hIm272 hFm272   (by omega) (by omega) (by assumption) (by omega))
        by_cases h277 : x9 = 20
        · refine zw_111 (t := 856) zr_0_33 (by rw [h277]; rfl) ?_
          refine zw_7 zr_0_856 rfl ?_
          obtain ⟨f278, ef278⟩ : ∃ v, m3 1 0 = v := ⟨_, rfl⟩
          have bf278 := ib_1_0 hIm3
          rw [ef278] at bf278
          obtain ⟨f279, ef279⟩ : ∃ v, m3 1 1 = v := ⟨_, rfl⟩
          have bf279 := ib_1_1 hIm3
          rw [ef279] at bf279
          obtain ⟨f280, ef280⟩ : ∃ v, m3 1 2 = v := ⟨_, rfl⟩
          have bf280 := ib_1_2 hIm3
          rw [ef280] at bf280
          obtain ⟨f281, ef281⟩ : ∃ v, m3 1 3 = v := ⟨_, rfl⟩
          have bf281 := ib_1_3 hIm3
          rw [ef281] at bf281
          refine zw_C zr_0_857 (Or.inl rfl) zm_122 rfl rfl ⟨Nat.le_of_ble_eq_true rfl, Nat.le_of_ble_eq_true rfl, Nat.le_of_ble_eq_true rfl, rfl, by decide⟩ (by omega) (th_122 (d := d - 1) (by omega) hIm3  (g0 := f278) (g1 := f279) (g2 := f280) (g3 := f281)  (F6 := m3 6) (F7 := m3 7) ef278 ef279 ef280 ef281 rfl rfl  (qK_pl hv0lp18_4 ef279 ef278)) ?_
          rintro _ m283 ⟨r284, rfl, hr284a, hr284b, hIm283, gm283, po0_r284, po1_r284⟩
          have hFm283 : zFr W_0 m0 m283 := hFm3.trans gm283 rfl
          have km283_1_0 : m283 1 0 = f278 := (gm283 1 0 rfl).trans ef278
          have km283_1_1 : m283 1 1 = f279 := (gm283 1 1 rfl).trans ef279
          have km283_1_2 : m283 1 2 = f280 := (gm283 1 2 rfl).trans ef280
          have km283_1_3 : m283 1 3 = f281 := (gm283 1 3 rfl).trans ef281
          show zW E (d) 0 860 [(6, 0), (2, 0), (2, 69), (0, i2)] [(1, r284)] m283 Q
          refine zw_116 zr_0_860 rfl ?_
          refine zw_7 zr_0_861 rfl ?_
          obtain ⟨f285, ef285⟩ : ∃ v, m283 70 823 = v := ⟨_, rfl⟩
          have bf285 : 0 ≤ m283 70 823 ∧ m283 70 823 ≤ 60 := ib_70_meetings hIm283 (by omega)
          rw [ef285] at bf285
          refine zw_C zr_0_862 (Or.inl rfl) zm_192 rfl rfl ⟨Nat.le_of_ble_eq_true rfl, Nat.le_of_ble_eq_true rfl, Nat.le_of_ble_eq_true rfl, rfl, by decide⟩ (by omega) (th_192 (d := d - 1) (by omega) hIm283  (g0 := f285)  (F70 := m283 70) (F81 := m283 81) ef285 rfl rfl  ) ?_
          rintro _ m286 ⟨r287, rfl, hr287a, hr287b, hIm286, gm286, po0_r287, po1_r287⟩
          have hFm286 : zFr W_0 m0 m286 := hFm283.trans gm286 rfl
          have km286_1_0 : m286 1 0 = f278 := (gm286 1 0 rfl).trans km283_1_0
          have km286_1_1 : m286 1 1 = f279 := (gm286 1 1 rfl).trans km283_1_1
          have km286_1_2 : m286 1 2 = f280 := (gm286 1 2 rfl).trans km283_1_2
          have km286_1_3 : m286 1 3 = f281 := (gm286 1 3 rfl).trans km283_1_3
          have km286_70_823 : m286 70 823 = f285 := (gm286 70 823 rfl).trans ef285
          show zW E (d) 0 865 [(6, 0), (2, 0), (2, 69), (0, i2)] [(1, r287)] m286 Q
          have hkz288_0 := zk_fr hv0lp18_4 gm283
          have hkz288_1 := zk_fr hkz288_0 gm286
          have hqz289 := zq_bridges hIm3 hv0lp18_4 gm283 ef278 ef279 ef280 ef281 po0_r284 po1_r284 ef285 po0_r287 po1_r287
          refine zw_116 zr_0_865 rfl ?_
          refine zw_42 zr_0_866 ?_
          refine zw_15 (c := 6) (L' := [(6, 0), (2, 0), (2, 69), (0, (i2 + 6))]) zr_0_1238 rfl (by decide) (by omega) rfl ?_
          refine zw_42 zr_0_1241 ?_
          exact zw_less (L := [(6, 0), (2, 0), (2, 69), (0, (i2 + 6))]) ⟨Or.inr rfl, Or.inr rfl, Or.inr rfl, Or.inr rfl, trivial⟩ (ihlp18_4 ((i2 + 6)) m286 hIm286 hFm286   (by omega) (by omega) (by assumption) (by omega))
        by_cases h291 : x9 = 21
        · refine zw_111 (t := 869) zr_0_33 (by rw [h291]; rfl) ?_
          refine zw_7 zr_0_869 rfl ?_
          refine zw_7s zr_0_870 rfl ?_
          refine zw_3 zr_0_871 rfl ?_
          refine zw_push zr_0_872 ?_
          refine zw_16 zr_0_873 (by omega) ?_
          refine zw_100 zr_0_874 rfl (by omega) (by omega) ?_
          intro x292 ex292 hx292a hx292b
          refine zw_7s zr_0_875 rfl ?_
          refine zw_3 zr_0_876 rfl ?_
          refine zw_push zr_0_877 ?_
          refine zw_16 zr_0_878 (by omega) ?_
          refine zw_100 zr_0_879 rfl (by omega) (by omega) ?_
          intro x293 ex293 hx293a hx293b
          refine zw_7s zr_0_880 rfl ?_
          refine zw_3 zr_0_881 rfl ?_
          refine zw_push zr_0_882 ?_
          refine zw_16 zr_0_883 (by omega) ?_
          refine zw_100 zr_0_884 rfl (by omega) (by omega) ?_
          intro x294 ex294 hx294a hx294b
          refine zw_C zr_0_885 (Or.inl rfl) zm_123 rfl rfl ⟨Nat.le_of_ble_eq_true rfl, Nat.le_of_ble_eq_true rfl, Nat.le_of_ble_eq_true rfl, rfl, by decide⟩ (by omega) (th_123 (d := d - 1) (by omega) hIm3 (a0 := x292) (a1 := x293) (a2 := x294)      (by omega) (by omega) (by omega) ) ?_
          rintro _ m295 ⟨r296, rfl, hr296a, hr296b, hIm295, gm295⟩
          have hFm295 : zFr W_0 m0 m295 := hFm3.trans gm295 rfl
          show zW E (d) 0 888 [(6, 0), (2, 0), (2, 69), (0, i2)] [(0, r296)] m295 Q
          refine zw_115 zr_0_888 rfl ?_
          refine zw_7 zr_0_889 rfl ?_
          refine zw_7s zr_0_890 rfl ?_
          refine zw_3 zr_0_891 rfl ?_
          refine zw_push zr_0_892 ?_
          refine zw_16 zr_0_893 (by omega) ?_
          refine zw_100k zr_0_894 rfl (by omega) (by omega) ex292.symm ?_
          refine zw_7s zr_0_895 rfl ?_
          refine zw_3 zr_0_896 rfl ?_
          refine zw_push zr_0_897 ?_
          refine zw_16 zr_0_898 (by omega) ?_
          refine zw_100k zr_0_899 rfl (by omega) (by omega) ex293.symm ?_
          refine zw_7s zr_0_900 rfl ?_
          refine zw_3 zr_0_901 rfl ?_
          refine zw_push zr_0_902 ?_
          refine zw_16 zr_0_903 (by omega) ?_
          refine zw_100k zr_0_904 rfl (by omega) (by omega) ex294.symm ?_
          refine zw_C zr_0_905 (Or.inl rfl) zm_196 rfl rfl ⟨Nat.le_of_ble_eq_true rfl, Nat.le_of_ble_eq_true rfl, Nat.le_of_ble_eq_true rfl, rfl, by decide⟩ (by omega) (th_196 (d := d - 1) (by omega) hIm295 (a0 := x292) (a1 := x293) (a2 := x294)      (by omega) (by omega) (by omega) ) ?_
          rintro _ m297 ⟨r298, rfl, hr298a, hr298b, hIm297, gm297⟩
          have hFm297 : zFr W_0 m0 m297 := hFm295.trans gm297 rfl
          show zW E (d) 0 908 [(6, 0), (2, 0), (2, 69), (0, i2)] [(0, r298)] m297 Q
          have hkz299_0 := zk_fr hv0lp18_4 gm295
          have hkz299_1 := zk_fr hkz299_0 gm297
          refine zw_115 zr_0_908 rfl ?_
          refine zw_42 zr_0_909 ?_
          refine zw_15 (c := 6) (L' := [(6, 0), (2, 0), (2, 69), (0, (i2 + 6))]) zr_0_1238 rfl (by decide) (by omega) rfl ?_
          refine zw_42 zr_0_1241 ?_
          exact zw_less (L := [(6, 0), (2, 0), (2, 69), (0, (i2 + 6))]) ⟨Or.inr rfl, Or.inr rfl, Or.inr rfl, Or.inr rfl, trivial⟩ (ihlp18_4 ((i2 + 6)) m297 hIm297 hFm297   (by omega) (by omega) (by assumption) (by omega))
        by_cases h301 : x9 = 22
        · refine zw_111 (t := 912) zr_0_33 (by rw [h301]; rfl) ?_
          refine zw_7 zr_0_912 rfl ?_
          obtain ⟨f302, ef302⟩ : ∃ v, m3 1 0 = v := ⟨_, rfl⟩
          have bf302 := ib_1_0 hIm3
          rw [ef302] at bf302
          obtain ⟨f303, ef303⟩ : ∃ v, m3 1 1 = v := ⟨_, rfl⟩
          have bf303 := ib_1_1 hIm3
          rw [ef303] at bf303
          obtain ⟨f304, ef304⟩ : ∃ v, m3 1 2 = v := ⟨_, rfl⟩
          have bf304 := ib_1_2 hIm3
          rw [ef304] at bf304
          refine zw_C zr_0_913 (Or.inl rfl) zm_124 rfl rfl ⟨Nat.le_of_ble_eq_true rfl, Nat.le_of_ble_eq_true rfl, Nat.le_of_ble_eq_true rfl, rfl, by decide⟩ (by omega) (th_124 (d := d - 1) (by omega) hIm3  (g0 := f302) (g1 := f303) (g2 := f304)  (F6 := m3 6) (F7 := m3 7) (F8 := m3 8) ef302 ef303 ef304 rfl rfl rfl  ) ?_
          rintro _ m305 ⟨r306, rfl, hr306a, hr306b, hIm305, gm305, po0_r306⟩
          have hFm305 : zFr W_0 m0 m305 := hFm3.trans gm305 rfl
          have km305_1_0 : m305 1 0 = f302 := (gm305 1 0 rfl).trans ef302
          have km305_1_1 : m305 1 1 = f303 := (gm305 1 1 rfl).trans ef303
          have km305_1_2 : m305 1 2 = f304 := (gm305 1 2 rfl).trans ef304
          show zW E (d) 0 916 [(6, 0), (2, 0), (2, 69), (0, i2)] [(0, r306)] m305 Q
          refine zw_115 zr_0_916 rfl ?_
          refine zw_7 zr_0_917 rfl ?_
          obtain ⟨f307, ef307⟩ : ∃ v, m305 70 822 = v := ⟨_, rfl⟩
          have bf307 : 0 ≤ m305 70 822 ∧ m305 70 822 ≤ 10 := ib_70_players hIm305 (by omega)
          rw [ef307] at bf307
          refine zw_C zr_0_918 (Or.inl rfl) zm_198 rfl rfl ⟨Nat.le_of_ble_eq_true rfl, Nat.le_of_ble_eq_true rfl, Nat.le_of_ble_eq_true rfl, rfl, by decide⟩ (by omega) (th_198 (d := d - 1) (by omega) hIm305  (g0 := f307)  (F70 := m305 70) ef307 rfl  ) ?_
          rintro _ _ ⟨r308, rfl, hr308a, hr308b, rfl, po0_r308⟩
          show zW E (d) 0 921 [(6, 0), (2, 0), (2, 69), (0, i2)] [(0, r308)] m305 Q
          have hkz309_0 := zk_fr hv0lp18_4 gm305
          have hqz310 := zq_rounds hIm3 hv0lp18_4 gm305 ef302 ef303 ef304 po0_r306 ef307 po0_r308
          refine zw_115 zr_0_921 rfl ?_
          refine zw_42 zr_0_922 ?_
          refine zw_15 (c := 6) (L' := [(6, 0), (2, 0), (2, 69), (0, (i2 + 6))]) zr_0_1238 rfl (by decide) (by omega) rfl ?_
          refine zw_42 zr_0_1241 ?_
          exact zw_less (L := [(6, 0), (2, 0), (2, 69), (0, (i2 + 6))]) ⟨Or.inr rfl, Or.inr rfl, Or.inr rfl, Or.inr rfl, trivial⟩ (ihlp18_4 ((i2 + 6)) m305 hIm305 hFm305   (by omega) (by omega) (by assumption) (by omega))
        by_cases h312 : x9 = 23
        · refine zw_111 (t := 925) zr_0_33 (by rw [h312]; rfl) ?_
          refine zw_7 zr_0_925 rfl ?_
          refine zw_7s zr_0_926 rfl ?_
          refine zw_3 zr_0_927 rfl ?_
          refine zw_push zr_0_928 ?_
          refine zw_16 zr_0_929 (by omega) ?_
          refine zw_100 zr_0_930 rfl (by omega) (by omega) ?_
          intro x313 ex313 hx313a hx313b
          obtain ⟨f314, ef314⟩ : ∃ v, m3 1 0 = v := ⟨_, rfl⟩
          have bf314 := ib_1_0 hIm3
          rw [ef314] at bf314
          obtain ⟨f315, ef315⟩ : ∃ v, m3 1 1 = v := ⟨_, rfl⟩
          have bf315 := ib_1_1 hIm3
          rw [ef315] at bf315
          obtain ⟨f316, ef316⟩ : ∃ v, m3 1 2 = v := ⟨_, rfl⟩
          have bf316 := ib_1_2 hIm3
          rw [ef316] at bf316
          refine zw_C zr_0_931 (Or.inl rfl) zm_125 rfl rfl ⟨Nat.le_of_ble_eq_true rfl, Nat.le_of_ble_eq_true rfl, Nat.le_of_ble_eq_true rfl, rfl, by decide⟩ (by omega) (th_125 (d := d - 1) (by omega) hIm3 (a0 := x313) (g0 := f314) (g1 := f315) (g2 := f316)  (F6 := m3 6) (F7 := m3 7) (F8 := m3 8) (F64 := m3 64) ef314 ef315 ef316 rfl rfl rfl rfl (by omega) ) ?_
          rintro _ m317 ⟨r318, rfl, hr318a, hr318b, hIm317, gm317, po0_r318⟩
          have hFm317 : zFr W_0 m0 m317 := hFm3.trans gm317 rfl
          have km317_1_0 : m317 1 0 = f314 := (gm317 1 0 rfl).trans ef314
          have km317_1_1 : m317 1 1 = f315 := (gm317 1 1 rfl).trans ef315
          have km317_1_2 : m317 1 2 = f316 := (gm317 1 2 rfl).trans ef316
          show zW E (d) 0 934 [(6, 0), (2, 0), (2, 69), (0, i2)] [(0, r318)] m317 Q
          refine zw_115 zr_0_934 rfl ?_
          refine zw_7 zr_0_935 rfl ?_
          refine zw_7s zr_0_936 rfl ?_
          refine zw_3 zr_0_937 rfl ?_
          refine zw_push zr_0_938 ?_
          refine zw_16 zr_0_939 (by omega) ?_
          refine zw_100k zr_0_940 rfl (by omega) (by omega) ex313.symm ?_
          obtain ⟨f319, ef319⟩ : ∃ v, m317 70 822 = v := ⟨_, rfl⟩
          have bf319 : 0 ≤ m317 70 822 ∧ m317 70 822 ≤ 10 := ib_70_players hIm317 (by omega)
          rw [ef319] at bf319
          obtain ⟨f320, ef320⟩ : ∃ v, m317 70 823 = v := ⟨_, rfl⟩
          have bf320 : 0 ≤ m317 70 823 ∧ m317 70 823 ≤ 60 := ib_70_meetings hIm317 (by omega)
          rw [ef320] at bf320
          refine zw_C zr_0_941 (Or.inl rfl) zm_199 rfl rfl ⟨Nat.le_of_ble_eq_true rfl, Nat.le_of_ble_eq_true rfl, Nat.le_of_ble_eq_true rfl, rfl, by decide⟩ (by omega) (th_199 (d := d - 1) (by omega) hIm317 (a0 := x313) (g0 := f319) (g1 := f320)  (F70 := m317 70) (F83 := m317 83) (F84 := m317 84) ef319 ef320 rfl rfl rfl (by omega) ) ?_
          rintro _ m321 ⟨r322, rfl, hr322a, hr322b, hIm321, gm321, po0_r322⟩
          have hFm321 : zFr W_0 m0 m321 := hFm317.trans gm321 rfl
          have km321_1_0 : m321 1 0 = f314 := (gm321 1 0 rfl).trans km317_1_0
          have km321_1_1 : m321 1 1 = f315 := (gm321 1 1 rfl).trans km317_1_1
          have km321_1_2 : m321 1 2 = f316 := (gm321 1 2 rfl).trans km317_1_2
          have km321_70_822 : m321 70 822 = f319 := (gm321 70 822 rfl).trans ef319
          have km321_70_823 : m321 70 823 = f320 := (gm321 70 823 rfl).trans ef320
          show zW E (d) 0 944 [(6, 0), (2, 0), (2, 69), (0, i2)] [(0, r322)] m321 Q
          have hkz323_0 := zk_fr hv0lp18_4 gm317
          have hkz323_1 := zk_fr hkz323_0 gm321
          have hqz324 := zq_ways hIm3 hv0lp18_4 gm317 ef314 ef315 ef316 po0_r318 ef319 ef320 po0_r322
          refine zw_115 zr_0_944 rfl ?_
          refine zw_42 zr_0_945 ?_
          refine zw_15 (c := 6) (L' := [(6, 0), (2, 0), (2, 69), (0, (i2 + 6))]) zr_0_1238 rfl (by decide) (by omega) rfl ?_
          refine zw_42 zr_0_1241 ?_
          exact zw_less (L := [(6, 0), (2, 0), (2, 69), (0, (i2 + 6))]) ⟨Or.inr rfl, Or.inr rfl, Or.inr rfl, Or.inr rfl, trivial⟩ (ihlp18_4 ((i2 + 6)) m321 hIm321 hFm321   (by omega) (by omega) (by assumption) (by omega))
        by_cases h326 : x9 = 24
        · refine zw_111 (t := 948) zr_0_33 (by rw [h326]; rfl) ?_
          refine zw_7 zr_0_948 rfl ?_
          refine zw_7s zr_0_949 rfl ?_
          refine zw_3 zr_0_950 rfl ?_
          refine zw_push zr_0_951 ?_
          refine zw_16 zr_0_952 (by omega) ?_
          refine zw_100 zr_0_953 rfl (by omega) (by omega) ?_
          intro x327 ex327 hx327a hx327b
          refine zw_7s zr_0_954 rfl ?_
          refine zw_3 zr_0_955 rfl ?_
          refine zw_push zr_0_956 ?_
          refine zw_16 zr_0_957 (by omega) ?_
          refine zw_100 zr_0_958 rfl (by omega) (by omega) ?_
          intro x328 ex328 hx328a hx328b
          refine zw_7s zr_0_959 rfl ?_
          refine zw_3 zr_0_960 rfl ?_
          refine zw_push zr_0_961 ?_
          refine zw_16 zr_0_962 (by omega) ?_
          refine zw_100 zr_0_963 rfl (by omega) (by omega) ?_
          intro x329 ex329 hx329a hx329b
          refine zw_7s zr_0_964 rfl ?_
          refine zw_3 zr_0_965 rfl ?_
          refine zw_push zr_0_966 ?_
          refine zw_16 zr_0_967 (by omega) ?_
          refine zw_100 zr_0_968 rfl (by omega) (by omega) ?_
          intro x330 ex330 hx330a hx330b
          obtain ⟨f331, ef331⟩ : ∃ v, m3 1 0 = v := ⟨_, rfl⟩
          have bf331 := ib_1_0 hIm3
          rw [ef331] at bf331
          refine zw_C zr_0_969 (Or.inl rfl) zm_126 rfl rfl ⟨Nat.le_of_ble_eq_true rfl, Nat.le_of_ble_eq_true rfl, Nat.le_of_ble_eq_true rfl, rfl, by decide⟩ (by omega) (th_126 (d := d - 1) (by omega) hIm3 (a0 := x327) (a1 := x328) (a2 := x329) (a3 := x330) (g0 := f331)  (F6 := m3 6) (F7 := m3 7) ef331 rfl rfl (by omega) (by omega) (by omega) (by omega) ) ?_
          rintro _ m332 ⟨r333, rfl, hr333a, hr333b, hIm332, gm332, po0_r333⟩
          have hFm332 : zFr W_0 m0 m332 := hFm3.trans gm332 rfl
          have km332_1_0 : m332 1 0 = f331 := (gm332 1 0 rfl).trans ef331
          show zW E (d) 0 972 [(6, 0), (2, 0), (2, 69), (0, i2)] [(0, r333)] m332 Q
          refine zw_115 zr_0_972 rfl ?_
          refine zw_7 zr_0_973 rfl ?_
          refine zw_7s zr_0_974 rfl ?_
          refine zw_3 zr_0_975 rfl ?_
          refine zw_push zr_0_976 ?_
          refine zw_16 zr_0_977 (by omega) ?_
          refine zw_100k zr_0_978 rfl (by omega) (by omega) ex327.symm ?_
          refine zw_7s zr_0_979 rfl ?_
          refine zw_3 zr_0_980 rfl ?_
          refine zw_push zr_0_981 ?_
          refine zw_16 zr_0_982 (by omega) ?_
          refine zw_100k zr_0_983 rfl (by omega) (by omega) ex328.symm ?_
          refine zw_7s zr_0_984 rfl ?_
          refine zw_3 zr_0_985 rfl ?_
          refine zw_push zr_0_986 ?_
          refine zw_16 zr_0_987 (by omega) ?_
          refine zw_100k zr_0_988 rfl (by omega) (by omega) ex329.symm ?_
          refine zw_7s zr_0_989 rfl ?_
          refine zw_3 zr_0_990 rfl ?_
          refine zw_push zr_0_991 ?_
          refine zw_16 zr_0_992 (by omega) ?_
          refine zw_100k zr_0_993 rfl (by omega) (by omega) ex330.symm ?_
          obtain ⟨f334, ef334⟩ : ∃ v, m332 70 822 = v := ⟨_, rfl⟩
          have bf334 : 0 ≤ m332 70 822 ∧ m332 70 822 ≤ 10 := ib_70_players hIm332 (by omega)
          rw [ef334] at bf334
          refine zw_C zr_0_994 (Or.inl rfl) zm_202 rfl rfl ⟨Nat.le_of_ble_eq_true rfl, Nat.le_of_ble_eq_true rfl, Nat.le_of_ble_eq_true rfl, rfl, by decide⟩ (by omega) (th_202 (d := d - 1) (by omega) hIm332 (a0 := x327) (a1 := x328) (a2 := x329) (a3 := x330) (g0 := f334)  (F70 := m332 70) ef334 rfl (by omega) (by omega) (by omega) (by omega) ) ?_
          rintro _ m335 ⟨r336, rfl, hr336a, hr336b, hIm335, gm335, po0_r336⟩
          have hFm335 : zFr W_0 m0 m335 := hFm332.trans gm335 rfl
          have km335_1_0 : m335 1 0 = f331 := (gm335 1 0 rfl).trans km332_1_0
          have km335_70_822 : m335 70 822 = f334 := (gm335 70 822 rfl).trans ef334
          show zW E (d) 0 997 [(6, 0), (2, 0), (2, 69), (0, i2)] [(0, r336)] m335 Q
          have hkz337_0 := zk_fr hv0lp18_4 gm332
          have hkz337_1 := zk_fr hkz337_0 gm335
          have hqz338 := zq_even hIm3 hv0lp18_4 gm332 ef331 po0_r333 ef334 po0_r336
          refine zw_115 zr_0_997 rfl ?_
          refine zw_42 zr_0_998 ?_
          refine zw_15 (c := 6) (L' := [(6, 0), (2, 0), (2, 69), (0, (i2 + 6))]) zr_0_1238 rfl (by decide) (by omega) rfl ?_
          refine zw_42 zr_0_1241 ?_
          exact zw_less (L := [(6, 0), (2, 0), (2, 69), (0, (i2 + 6))]) ⟨Or.inr rfl, Or.inr rfl, Or.inr rfl, Or.inr rfl, trivial⟩ (ihlp18_4 ((i2 + 6)) m335 hIm335 hFm335   (by omega) (by omega) (by assumption) (by omega))
        by_cases h340 : x9 = 25
        · refine zw_111 (t := 1001) zr_0_33 (by rw [h340]; rfl) ?_
          refine zw_7 zr_0_1001 rfl ?_
          refine zw_C zr_0_1002 (Or.inl rfl) zm_127 rfl rfl ⟨Nat.le_of_ble_eq_true rfl, Nat.le_of_ble_eq_true rfl, Nat.le_of_ble_eq_true rfl, rfl, by decide⟩ (by omega) (th_127 (d := d - 1) (by omega) hIm3        ) ?_
          rintro _ _ ⟨r341, rfl, hr341a, hr341b, rfl⟩
          show zW E (d) 0 1005 [(6, 0), (2, 0), (2, 69), (0, i2)] [(0, r341)] m3 Q
          refine zw_115 zr_0_1005 rfl ?_
          refine zw_7 zr_0_1006 rfl ?_
          refine zw_C zr_0_1007 (Or.inl rfl) zm_203 rfl rfl ⟨Nat.le_of_ble_eq_true rfl, Nat.le_of_ble_eq_true rfl, Nat.le_of_ble_eq_true rfl, rfl, by decide⟩ (by omega) (th_203 (d := d - 1) (by omega) hIm3        ) ?_
          rintro _ _ ⟨r342, rfl, hr342a, hr342b, rfl⟩
          show zW E (d) 0 1010 [(6, 0), (2, 0), (2, 69), (0, i2)] [(0, r342)] m3 Q
          refine zw_115 zr_0_1010 rfl ?_
          refine zw_42 zr_0_1011 ?_
          refine zw_15 (c := 6) (L' := [(6, 0), (2, 0), (2, 69), (0, (i2 + 6))]) zr_0_1238 rfl (by decide) (by omega) rfl ?_
          refine zw_42 zr_0_1241 ?_
          exact zw_less (L := [(6, 0), (2, 0), (2, 69), (0, (i2 + 6))]) ⟨Or.inr rfl, Or.inr rfl, Or.inr rfl, Or.inr rfl, trivial⟩ (ihlp18_4 ((i2 + 6)) m3 hIm3 hFm3   (by omega) (by omega) (by assumption) (by omega))
        by_cases h345 : x9 = 26
        · refine zw_111 (t := 1014) zr_0_33 (by rw [h345]; rfl) ?_
          refine zw_7 zr_0_1014 rfl ?_
          refine zw_7s zr_0_1015 rfl ?_
          refine zw_3 zr_0_1016 rfl ?_
          refine zw_push zr_0_1017 ?_
          refine zw_16 zr_0_1018 (by omega) ?_
          refine zw_100 zr_0_1019 rfl (by omega) (by omega) ?_
          intro x346 ex346 hx346a hx346b
          refine zw_7s zr_0_1020 rfl ?_
          refine zw_3 zr_0_1021 rfl ?_
          refine zw_push zr_0_1022 ?_
          refine zw_16 zr_0_1023 (by omega) ?_
          refine zw_100 zr_0_1024 rfl (by omega) (by omega) ?_
          intro x347 ex347 hx347a hx347b
          refine zw_7s zr_0_1025 rfl ?_
          refine zw_3 zr_0_1026 rfl ?_
          refine zw_push zr_0_1027 ?_
          refine zw_16 zr_0_1028 (by omega) ?_
          refine zw_100 zr_0_1029 rfl (by omega) (by omega) ?_
          intro x348 ex348 hx348a hx348b
          refine zw_7s zr_0_1030 rfl ?_
          refine zw_3 zr_0_1031 rfl ?_
          refine zw_push zr_0_1032 ?_
          refine zw_16 zr_0_1033 (by omega) ?_
          refine zw_100 zr_0_1034 rfl (by omega) (by omega) ?_
          intro x349 ex349 hx349a hx349b
          obtain ⟨f350, ef350⟩ : ∃ v, m3 1 0 = v := ⟨_, rfl⟩
          have bf350 := ib_1_0 hIm3
          rw [ef350] at bf350
          refine zw_C zr_0_1035 (Or.inl rfl) zm_129 rfl rfl ⟨Nat.le_of_ble_eq_true rfl, Nat.le_of_ble_eq_true rfl, Nat.le_of_ble_eq_true rfl, rfl, by decide⟩ (by omega) (th_129 (d := d - 1) (by omega) hIm3 (a0 := x346) (a1 := x347) (a2 := x348) (a3 := x349) (g0 := f350)  (F3 := m3 3) (F4 := m3 4) ef350 rfl rfl (by omega) (by omega) (by omega) (by omega) ) ?_
          rintro _ m351 ⟨r352, rfl, hr352a, hr352b, hIm351, gm351, po0_r352, po1_r352, po2_r352⟩
          have hFm351 : zFr W_0 m0 m351 := hFm3.trans gm351 rfl
          have km351_1_0 : m351 1 0 = f350 := (gm351 1 0 rfl).trans ef350
          show zW E (d) 0 1038 [(6, 0), (2, 0), (2, 69), (0, i2)] [(0, r352)] m351 Q
          refine zw_115 zr_0_1038 rfl ?_
          refine zw_7 zr_0_1039 rfl ?_
          refine zw_7s zr_0_1040 rfl ?_
          refine zw_3 zr_0_1041 rfl ?_
          refine zw_push zr_0_1042 ?_
          refine zw_16 zr_0_1043 (by omega) ?_
          refine zw_100k zr_0_1044 rfl (by omega) (by omega) ex346.symm ?_
          refine zw_7s zr_0_1045 rfl ?_
          refine zw_3 zr_0_1046 rfl ?_
          refine zw_push zr_0_1047 ?_
          refine zw_16 zr_0_1048 (by omega) ?_
          refine zw_100k zr_0_1049 rfl (by omega) (by omega) ex347.symm ?_
          refine zw_7s zr_0_1050 rfl ?_
          refine zw_3 zr_0_1051 rfl ?_
          refine zw_push zr_0_1052 ?_
          refine zw_16 zr_0_1053 (by omega) ?_
          refine zw_100k zr_0_1054 rfl (by omega) (by omega) ex348.symm ?_
          refine zw_7s zr_0_1055 rfl ?_
          refine zw_3 zr_0_1056 rfl ?_
          refine zw_push zr_0_1057 ?_
          refine zw_16 zr_0_1058 (by omega) ?_
          refine zw_100k zr_0_1059 rfl (by omega) (by omega) ex349.symm ?_
          obtain ⟨f353, ef353⟩ : ∃ v, m351 70 822 = v := ⟨_, rfl⟩
          have bf353 : 0 ≤ m351 70 822 ∧ m351 70 822 ≤ 10 := ib_70_players hIm351 (by omega)
          rw [ef353] at bf353
          refine zw_C zr_0_1060 (Or.inl rfl) zm_204 rfl rfl ⟨Nat.le_of_ble_eq_true rfl, Nat.le_of_ble_eq_true rfl, Nat.le_of_ble_eq_true rfl, rfl, by decide⟩ (by omega) (th_204 (d := d - 1) (by omega) hIm351 (a0 := x346) (a1 := x347) (a2 := x348) (a3 := x349) (g0 := f353)  (F70 := m351 70) ef353 rfl (by omega) (by omega) (by omega) (by omega) ) ?_
          rintro _ m354 ⟨r355, rfl, hr355a, hr355b, hIm354, gm354, po0_r355, po1_r355⟩
          have hFm354 : zFr W_0 m0 m354 := hFm351.trans gm354 rfl
          have km354_1_0 : m354 1 0 = f350 := (gm354 1 0 rfl).trans km351_1_0
          show zW E (d) 0 1063 [(6, 0), (2, 0), (2, 69), (0, i2)] [(0, r355)] m354 Q
          obtain ⟨hkz356, hrz356⟩ := zk_moves hIm3 hv0lp18_4 gm351 ef350 po0_r352 po1_r352 po2_r352 gm354 ef353 po0_r355 po1_r355
          refine zw_115 zr_0_1063 rfl ?_
          refine zw_42 zr_0_1064 ?_
          refine zw_15 (c := 6) (L' := [(6, 0), (2, 0), (2, 69), (0, (i2 + 6))]) zr_0_1238 rfl (by decide) (by omega) rfl ?_
          refine zw_42 zr_0_1241 ?_
          exact zw_less (L := [(6, 0), (2, 0), (2, 69), (0, (i2 + 6))]) ⟨Or.inr rfl, Or.inr rfl, Or.inr rfl, Or.inr rfl, trivial⟩ (ihlp18_4 ((i2 + 6)) m354 hIm354 hFm354   (by omega) (by omega) (by assumption) (by omega))
        by_cases h358 : x9 = 27
        · refine zw_111 (t := 1067) zr_0_33 (by rw [h358]; rfl) ?_
          refine zw_7 zr_0_1067 rfl ?_
          refine zw_7s zr_0_1068 rfl ?_
          refine zw_3 zr_0_1069 rfl ?_
          refine zw_push zr_0_1070 ?_
          refine zw_16 zr_0_1071 (by omega) ?_
          refine zw_100 zr_0_1072 rfl (by omega) (by omega) ?_
          intro x359 ex359 hx359a hx359b
          refine zw_7s zr_0_1073 rfl ?_
          refine zw_3 zr_0_1074 rfl ?_
          refine zw_push zr_0_1075 ?_
          refine zw_16 zr_0_1076 (by omega) ?_
          refine zw_100 zr_0_1077 rfl (by omega) (by omega) ?_
          intro x360 ex360 hx360a hx360b
          refine zw_C zr_0_1078 (Or.inl rfl) zm_130 rfl rfl ⟨Nat.le_of_ble_eq_true rfl, Nat.le_of_ble_eq_true rfl, Nat.le_of_ble_eq_true rfl, rfl, by decide⟩ (by omega) (th_130 (d := d - 1) (by omega) hIm3 (a0 := x359) (a1 := x360)   (F13 := m3 13)  rfl (by omega) (by omega) ) ?_
          rintro _ m361 ⟨r362, rfl, hr362a, hr362b, hIm361, gm361, po0_r362, po1_r362⟩
          have hFm361 : zFr W_0 m0 m361 := hFm3.trans gm361 rfl
          show zW E (d) 0 1081 [(6, 0), (2, 0), (2, 69), (0, i2)] [(0, r362)] m361 Q
          refine zw_115 zr_0_1081 rfl ?_
          refine zw_7 zr_0_1082 rfl ?_
          refine zw_7s zr_0_1083 rfl ?_
          refine zw_3 zr_0_1084 rfl ?_
          refine zw_push zr_0_1085 ?_
          refine zw_16 zr_0_1086 (by omega) ?_
          refine zw_100k zr_0_1087 rfl (by omega) (by omega) ex359.symm ?_
          refine zw_7s zr_0_1088 rfl ?_
          refine zw_3 zr_0_1089 rfl ?_
          refine zw_push zr_0_1090 ?_
          refine zw_16 zr_0_1091 (by omega) ?_
          refine zw_100k zr_0_1092 rfl (by omega) (by omega) ex360.symm ?_
          refine zw_C zr_0_1093 (Or.inl rfl) zm_205 rfl rfl ⟨Nat.le_of_ble_eq_true rfl, Nat.le_of_ble_eq_true rfl, Nat.le_of_ble_eq_true rfl, rfl, by decide⟩ (by omega) (th_205 (d := d - 1) (by omega) hIm361 (a0 := x359) (a1 := x360)   (F70 := m361 70)  rfl (by omega) (by omega) ) ?_
          rintro _ m363 ⟨r364, rfl, hr364a, hr364b, hIm363, gm363, po0_r364, po1_r364⟩
          have hFm363 : zFr W_0 m0 m363 := hFm361.trans gm363 rfl
          show zW E (d) 0 1096 [(6, 0), (2, 0), (2, 69), (0, i2)] [(0, r364)] m363 Q
          obtain ⟨hkz365, hrz365⟩ := zk_weight hIm3 hv0lp18_4 gm361 po0_r362 po1_r362 gm363 po0_r364 po1_r364
          refine zw_115 zr_0_1096 rfl ?_
          refine zw_42 zr_0_1097 ?_
          refine zw_15 (c := 6) (L' := [(6, 0), (2, 0), (2, 69), (0, (i2 + 6))]) zr_0_1238 rfl (by decide) (by omega) rfl ?_
          refine zw_42 zr_0_1241 ?_
          exact zw_less (L := [(6, 0), (2, 0), (2, 69), (0, (i2 + 6))]) ⟨Or.inr rfl, Or.inr rfl, Or.inr rfl, Or.inr rfl, trivial⟩ (ihlp18_4 ((i2 + 6)) m363 hIm363 hFm363   (by omega) (by omega) (by assumption) (by omega))
        by_cases h367 : x9 = 28
        · refine zw_111 (t := 1100) zr_0_33 (by rw [h367]; rfl) ?_
          refine zw_7 zr_0_1100 rfl ?_
          refine zw_7s zr_0_1101 rfl ?_
          refine zw_3 zr_0_1102 rfl ?_
          refine zw_push zr_0_1103 ?_
          refine zw_16 zr_0_1104 (by omega) ?_
          refine zw_100 zr_0_1105 rfl (by omega) (by omega) ?_
          intro x368 ex368 hx368a hx368b
          refine zw_7s zr_0_1106 rfl ?_
          refine zw_3 zr_0_1107 rfl ?_
          refine zw_push zr_0_1108 ?_
          refine zw_16 zr_0_1109 (by omega) ?_
          refine zw_100 zr_0_1110 rfl (by omega) (by omega) ?_
          intro x369 ex369 hx369a hx369b
          obtain ⟨f370, ef370⟩ : ∃ v, m3 1 0 = v := ⟨_, rfl⟩
          have bf370 := ib_1_0 hIm3
          rw [ef370] at bf370
          refine zw_C zr_0_1111 (Or.inl rfl) zm_132 rfl rfl ⟨Nat.le_of_ble_eq_true rfl, Nat.le_of_ble_eq_true rfl, Nat.le_of_ble_eq_true rfl, rfl, by decide⟩ (by omega) (th_132 (d := d - 1) (by omega) hIm3 (a0 := x368) (a1 := x369) (g0 := f370)  (F4 := m3 4) ef370 rfl (by omega) (by omega) ) ?_
          rintro _ m371 ⟨r372, rfl, hr372a, hr372b, hIm371, gm371, po0_r372⟩
          have hFm371 : zFr W_0 m0 m371 := hFm3.trans gm371 rfl
          have km371_1_0 : m371 1 0 = f370 := (gm371 1 0 rfl).trans ef370
          show zW E (d) 0 1114 [(6, 0), (2, 0), (2, 69), (0, i2)] [(0, r372)] m371 Q
          refine zw_115 zr_0_1114 rfl ?_
          refine zw_7 zr_0_1115 rfl ?_
          refine zw_7s zr_0_1116 rfl ?_
          refine zw_3 zr_0_1117 rfl ?_
          refine zw_push zr_0_1118 ?_
          refine zw_16 zr_0_1119 (by omega) ?_
          refine zw_100k zr_0_1120 rfl (by omega) (by omega) ex368.symm ?_
          refine zw_7s zr_0_1121 rfl ?_
          refine zw_3 zr_0_1122 rfl ?_
          refine zw_push zr_0_1123 ?_
          refine zw_16 zr_0_1124 (by omega) ?_
          refine zw_100k zr_0_1125 rfl (by omega) (by omega) ex369.symm ?_
          obtain ⟨f373, ef373⟩ : ∃ v, m371 70 822 = v := ⟨_, rfl⟩
          have bf373 : 0 ≤ m371 70 822 ∧ m371 70 822 ≤ 10 := ib_70_players hIm371 (by omega)
          rw [ef373] at bf373
          refine zw_C zr_0_1126 (Or.inl rfl) zm_206 rfl rfl ⟨Nat.le_of_ble_eq_true rfl, Nat.le_of_ble_eq_true rfl, Nat.le_of_ble_eq_true rfl, rfl, by decide⟩ (by omega) (th_206 (d := d - 1) (by omega) hIm371 (a0 := x368) (a1 := x369) (g0 := f373)  (F70 := m371 70) ef373 rfl (by omega) (by omega) ) ?_
          rintro _ m374 ⟨r375, rfl, hr375a, hr375b, hIm374, gm374, po0_r375⟩
          have hFm374 : zFr W_0 m0 m374 := hFm371.trans gm374 rfl
          have km374_1_0 : m374 1 0 = f370 := (gm374 1 0 rfl).trans km371_1_0
          have km374_70_822 : m374 70 822 = f373 := (gm374 70 822 rfl).trans ef373
          show zW E (d) 0 1129 [(6, 0), (2, 0), (2, 69), (0, i2)] [(0, r375)] m374 Q
          have hkz376_0 := zk_fr hv0lp18_4 gm371
          have hkz376_1 := zk_fr hkz376_0 gm374
          have hqz377 := zq_share hIm3 hv0lp18_4 gm371 ef370 po0_r372 ef373 po0_r375
          refine zw_115 zr_0_1129 rfl ?_
          refine zw_42 zr_0_1130 ?_
          refine zw_15 (c := 6) (L' := [(6, 0), (2, 0), (2, 69), (0, (i2 + 6))]) zr_0_1238 rfl (by decide) (by omega) rfl ?_
          refine zw_42 zr_0_1241 ?_
          exact zw_less (L := [(6, 0), (2, 0), (2, 69), (0, (i2 + 6))]) ⟨Or.inr rfl, Or.inr rfl, Or.inr rfl, Or.inr rfl, trivial⟩ (ihlp18_4 ((i2 + 6)) m374 hIm374 hFm374   (by omega) (by omega) (by assumption) (by omega))
        by_cases h379 : x9 = 29
        · refine zw_111 (t := 1133) zr_0_33 (by rw [h379]; rfl) ?_
          refine zw_7 zr_0_1133 rfl ?_
          refine zw_7s zr_0_1134 rfl ?_
          refine zw_3 zr_0_1135 rfl ?_
          refine zw_push zr_0_1136 ?_
          refine zw_16 zr_0_1137 (by omega) ?_
          refine zw_100 zr_0_1138 rfl (by omega) (by omega) ?_
          intro x380 ex380 hx380a hx380b
          refine zw_C zr_0_1139 (Or.inl rfl) zm_133 rfl rfl ⟨Nat.le_of_ble_eq_true rfl, Nat.le_of_ble_eq_true rfl, Nat.le_of_ble_eq_true rfl, rfl, by decide⟩ (by omega) (th_133 (d := d - 1) (by omega) hIm3 (a0 := x380)      (by omega) ) ?_
          rintro _ _ ⟨r381, rfl, hr381a, hr381b, rfl⟩
          show zW E (d) 0 1142 [(6, 0), (2, 0), (2, 69), (0, i2)] [(1, r381)] m3 Q
          refine zw_116 zr_0_1142 rfl ?_
          refine zw_7 zr_0_1143 rfl ?_
          refine zw_7s zr_0_1144 rfl ?_
          refine zw_3 zr_0_1145 rfl ?_
          refine zw_push zr_0_1146 ?_
          refine zw_16 zr_0_1147 (by omega) ?_
          refine zw_100k zr_0_1148 rfl (by omega) (by omega) ex380.symm ?_
          refine zw_C zr_0_1149 (Or.inl rfl) zm_207 rfl rfl ⟨Nat.le_of_ble_eq_true rfl, Nat.le_of_ble_eq_true rfl, Nat.le_of_ble_eq_true rfl, rfl, by decide⟩ (by omega) (th_207 (d := d - 1) (by omega) hIm3 (a0 := x380)      (by omega) ) ?_
          rintro _ _ ⟨r382, rfl, hr382a, hr382b, rfl⟩
          show zW E (d) 0 1152 [(6, 0), (2, 0), (2, 69), (0, i2)] [(1, r382)] m3 Q
          refine zw_116 zr_0_1152 rfl ?_
          refine zw_42 zr_0_1153 ?_
          refine zw_15 (c := 6) (L' := [(6, 0), (2, 0), (2, 69), (0, (i2 + 6))]) zr_0_1238 rfl (by decide) (by omega) rfl ?_
          refine zw_42 zr_0_1241 ?_
          exact zw_less (L := [(6, 0), (2, 0), (2, 69), (0, (i2 + 6))]) ⟨Or.inr rfl, Or.inr rfl, Or.inr rfl, Or.inr rfl, trivial⟩ (ihlp18_4 ((i2 + 6)) m3 hIm3 hFm3   (by omega) (by omega) (by assumption) (by omega))
        by_cases h385 : x9 = 30
        · refine zw_111 (t := 1156) zr_0_33 (by rw [h385]; rfl) ?_
          refine zw_7 zr_0_1156 rfl ?_
          refine zw_7s zr_0_1157 rfl ?_
          refine zw_3 zr_0_1158 rfl ?_
          refine zw_push zr_0_1159 ?_
          refine zw_16 zr_0_1160 (by omega) ?_
          refine zw_100 zr_0_1161 rfl (by omega) (by omega) ?_
          intro x386 ex386 hx386a hx386b
          refine zw_C zr_0_1162 (Or.inl rfl) zm_134 rfl rfl ⟨Nat.le_of_ble_eq_true rfl, Nat.le_of_ble_eq_true rfl, Nat.le_of_ble_eq_true rfl, rfl, by decide⟩ (by omega) (th_134 (d := d - 1) (by omega) hIm3 (a0 := x386)      (by omega) ) ?_
          rintro _ m387 ⟨r388, rfl, hr388a, hr388b, hIm387, gm387, po0_r388⟩
          have hFm387 : zFr W_0 m0 m387 := hFm3.trans gm387 rfl
          show zW E (d) 0 1165 [(6, 0), (2, 0), (2, 69), (0, i2)] [(0, r388)] m387 Q
          refine zw_115 zr_0_1165 rfl ?_
          refine zw_7 zr_0_1166 rfl ?_
          refine zw_7s zr_0_1167 rfl ?_
          refine zw_3 zr_0_1168 rfl ?_
          refine zw_push zr_0_1169 ?_
          refine zw_16 zr_0_1170 (by omega) ?_
          refine zw_100k zr_0_1171 rfl (by omega) (by omega) ex386.symm ?_
          refine zw_C zr_0_1172 (Or.inl rfl) zm_208 rfl rfl ⟨Nat.le_of_ble_eq_true rfl, Nat.le_of_ble_eq_true rfl, Nat.le_of_ble_eq_true rfl, rfl, by decide⟩ (by omega) (th_208 (d := d - 1) (by omega) hIm387 (a0 := x386)   (F70 := m387 70) (F71 := m387 71) (F72 := m387 72)  rfl rfl rfl (by omega) ) ?_
          rintro _ m389 ⟨r390, rfl, hr390a, hr390b, hIm389, gm389, po0_r390⟩
          have hFm389 : zFr W_0 m0 m389 := hFm387.trans gm389 rfl
          show zW E (d) 0 1175 [(6, 0), (2, 0), (2, 69), (0, i2)] [(0, r390)] m389 Q
          obtain ⟨hkz391, hrz391⟩ := zk_image hv0lp18_4 gm387 po0_r388 gm389 po0_r390
          refine zw_115 zr_0_1175 rfl ?_
          refine zw_42 zr_0_1176 ?_
          refine zw_15 (c := 6) (L' := [(6, 0), (2, 0), (2, 69), (0, (i2 + 6))]) zr_0_1238 rfl (by decide) (by omega) rfl ?_
          refine zw_42 zr_0_1241 ?_
          exact zw_less (L := [(6, 0), (2, 0), (2, 69), (0, (i2 + 6))]) ⟨Or.inr rfl, Or.inr rfl, Or.inr rfl, Or.inr rfl, trivial⟩ (ihlp18_4 ((i2 + 6)) m389 hIm389 hFm389   (by omega) (by omega) (by assumption) (by omega))
        by_cases h393 : x9 = 31
        · refine zw_111 (t := 1179) zr_0_33 (by rw [h393]; rfl) ?_
          refine zw_7 zr_0_1179 rfl ?_
          refine zw_7s zr_0_1180 rfl ?_
          refine zw_3 zr_0_1181 rfl ?_
          refine zw_push zr_0_1182 ?_
          refine zw_16 zr_0_1183 (by omega) ?_
          refine zw_100 zr_0_1184 rfl (by omega) (by omega) ?_
          intro x394 ex394 hx394a hx394b
          refine zw_C zr_0_1185 (Or.inl rfl) zm_135 rfl rfl ⟨Nat.le_of_ble_eq_true rfl, Nat.le_of_ble_eq_true rfl, Nat.le_of_ble_eq_true rfl, rfl, by decide⟩ (by omega) (th_135 (d := d - 1) (by omega) hIm3 (a0 := x394)   (F41 := m3 41)  rfl (by omega) ) ?_
          rintro _ m395 ⟨r396, rfl, hr396a, hr396b, hIm395, gm395, po0_r396⟩
          have hFm395 : zFr W_0 m0 m395 := hFm3.trans gm395 rfl
          show zW E (d) 0 1188 [(6, 0), (2, 0), (2, 69), (0, i2)] [(0, r396)] m395 Q
          refine zw_115 zr_0_1188 rfl ?_
          refine zw_7 zr_0_1189 rfl ?_
          refine zw_7s zr_0_1190 rfl ?_
          refine zw_3 zr_0_1191 rfl ?_
          refine zw_push zr_0_1192 ?_
          refine zw_16 zr_0_1193 (by omega) ?_
          refine zw_100k zr_0_1194 rfl (by omega) (by omega) ex394.symm ?_
          refine zw_C zr_0_1195 (Or.inl rfl) zm_209 rfl rfl ⟨Nat.le_of_ble_eq_true rfl, Nat.le_of_ble_eq_true rfl, Nat.le_of_ble_eq_true rfl, rfl, by decide⟩ (by omega) (th_209 (d := d - 1) (by omega) hIm395 (a0 := x394)   (F70 := m395 70) (F71 := m395 71) (F72 := m395 72)  rfl rfl rfl (by omega) ) ?_
          rintro _ m397 ⟨r398, rfl, hr398a, hr398b, hIm397, gm397, po0_r398⟩
          have hFm397 : zFr W_0 m0 m397 := hFm395.trans gm397 rfl
          show zW E (d) 0 1198 [(6, 0), (2, 0), (2, 69), (0, i2)] [(0, r398)] m397 Q
          obtain ⟨hkz399, hrz399⟩ := zk_from hv0lp18_4 gm395 po0_r396 gm397 po0_r398
          refine zw_115 zr_0_1198 rfl ?_
          refine zw_42 zr_0_1199 ?_
          refine zw_15 (c := 6) (L' := [(6, 0), (2, 0), (2, 69), (0, (i2 + 6))]) zr_0_1238 rfl (by decide) (by omega) rfl ?_
          refine zw_42 zr_0_1241 ?_
          exact zw_less (L := [(6, 0), (2, 0), (2, 69), (0, (i2 + 6))]) ⟨Or.inr rfl, Or.inr rfl, Or.inr rfl, Or.inr rfl, trivial⟩ (ihlp18_4 ((i2 + 6)) m397 hIm397 hFm397   (by omega) (by omega) (by assumption) (by omega))
        by_cases h401 : x9 = 32
        · refine zw_111 (t := 1202) zr_0_33 (by rw [h401]; rfl) ?_
          refine zw_7 zr_0_1202 rfl ?_
          refine zw_7s zr_0_1203 rfl ?_
          refine zw_3 zr_0_1204 rfl ?_
          refine zw_push zr_0_1205 ?_
          refine zw_16 zr_0_1206 (by omega) ?_
          refine zw_100 zr_0_1207 rfl (by omega) (by omega) ?_
          intro x402 ex402 hx402a hx402b
          obtain ⟨f403, ef403⟩ : ∃ v, m3 1 0 = v := ⟨_, rfl⟩
          have bf403 := ib_1_0 hIm3
          rw [ef403] at bf403
          obtain ⟨f404, ef404⟩ : ∃ v, m3 1 1 = v := ⟨_, rfl⟩
          have bf404 := ib_1_1 hIm3
          rw [ef404] at bf404
          obtain ⟨f405, ef405⟩ : ∃ v, m3 1 2 = v := ⟨_, rfl⟩
          have bf405 := ib_1_2 hIm3
          rw [ef405] at bf405
          obtain ⟨f406, ef406⟩ : ∃ v, m3 1 3 = v := ⟨_, rfl⟩
          have bf406 := ib_1_3 hIm3
          rw [ef406] at bf406
          refine zw_C zr_0_1208 (Or.inl rfl) zm_137 rfl rfl ⟨Nat.le_of_ble_eq_true rfl, Nat.le_of_ble_eq_true rfl, Nat.le_of_ble_eq_true rfl, rfl, by decide⟩ (by omega) (th_137 (d := d - 1) (by omega) hIm3 (a0 := x402) (g0 := f403) (g1 := f404) (g2 := f405) (g3 := f406)   ef403 ef404 ef405 ef406  (by omega) ) ?_
          rintro _ _ ⟨r407, rfl, hr407a, hr407b, rfl, po0_r407⟩
          show zW E (d) 0 1211 [(6, 0), (2, 0), (2, 69), (0, i2)] [(0, r407)] m3 Q
          refine zw_115 zr_0_1211 rfl ?_
          refine zw_7 zr_0_1212 rfl ?_
          refine zw_7s zr_0_1213 rfl ?_
          refine zw_3 zr_0_1214 rfl ?_
          refine zw_push zr_0_1215 ?_
          refine zw_16 zr_0_1216 (by omega) ?_
          refine zw_100k zr_0_1217 rfl (by omega) (by omega) ex402.symm ?_
          obtain ⟨f408, ef408⟩ : ∃ v, m3 70 822 = v := ⟨_, rfl⟩
          have bf408 : 0 ≤ m3 70 822 ∧ m3 70 822 ≤ 10 := ib_70_players hIm3 (by omega)
          rw [ef408] at bf408
          obtain ⟨f409, ef409⟩ : ∃ v, m3 70 823 = v := ⟨_, rfl⟩
          have bf409 : 0 ≤ m3 70 823 ∧ m3 70 823 ≤ 60 := ib_70_meetings hIm3 (by omega)
          rw [ef409] at bf409
          refine zw_C zr_0_1218 (Or.inl rfl) zm_210 rfl rfl ⟨Nat.le_of_ble_eq_true rfl, Nat.le_of_ble_eq_true rfl, Nat.le_of_ble_eq_true rfl, rfl, by decide⟩ (by omega) (th_210 (d := d - 1) (by omega) hIm3 (a0 := x402) (g0 := f408) (g1 := f409)  (F70 := m3 70) ef408 ef409 rfl (by omega) ) ?_
          rintro _ _ ⟨r410, rfl, hr410a, hr410b, rfl, po0_r410⟩
          show zW E (d) 0 1221 [(6, 0), (2, 0), (2, 69), (0, i2)] [(0, r410)] m3 Q
          have hqz412 := zq_count hIm3 hv0lp18_4 (zFr.rfl (W := [])) ef403 ef404 ef405 ef406 po0_r407 ef408 ef409 po0_r410
          refine zw_115 zr_0_1221 rfl ?_
          refine zw_42 zr_0_1222 ?_
          refine zw_15 (c := 6) (L' := [(6, 0), (2, 0), (2, 69), (0, (i2 + 6))]) zr_0_1238 rfl (by decide) (by omega) rfl ?_
          refine zw_42 zr_0_1241 ?_
          exact zw_less (L := [(6, 0), (2, 0), (2, 69), (0, (i2 + 6))]) ⟨Or.inr rfl, Or.inr rfl, Or.inr rfl, Or.inr rfl, trivial⟩ (ihlp18_4 ((i2 + 6)) m3 hIm3 hFm3   (by omega) (by omega) (by assumption) (by omega))
        by_cases h414 : x9 = 33
        · refine zw_111 (t := 1225) zr_0_33 (by rw [h414]; rfl) ?_
          refine zw_7 zr_0_1225 rfl ?_
          refine zw_C zr_0_1226 (Or.inl rfl) zm_138 rfl rfl ⟨Nat.le_of_ble_eq_true rfl, Nat.le_of_ble_eq_true rfl, Nat.le_of_ble_eq_true rfl, rfl, by decide⟩ (by omega) (th_138 (d := d - 1) (by omega) hIm3        ) ?_
          rintro _ _ ⟨r415, rfl, hr415a, hr415b, rfl⟩
          show zW E (d) 0 1229 [(6, 0), (2, 0), (2, 69), (0, i2)] [(1, r415)] m3 Q
          refine zw_116 zr_0_1229 rfl ?_
          refine zw_7 zr_0_1230 rfl ?_
          refine zw_C zr_0_1231 (Or.inl rfl) zm_212 rfl rfl ⟨Nat.le_of_ble_eq_true rfl, Nat.le_of_ble_eq_true rfl, Nat.le_of_ble_eq_true rfl, rfl, by decide⟩ (by omega) (th_212 (d := d - 1) (by omega) hIm3        ) ?_
          rintro _ _ ⟨r416, rfl, hr416a, hr416b, rfl⟩
          show zW E (d) 0 1234 [(6, 0), (2, 0), (2, 69), (0, i2)] [(1, r416)] m3 Q
          refine zw_116 zr_0_1234 rfl ?_
          refine zw_42 zr_0_1235 ?_
          refine zw_15 (c := 6) (L' := [(6, 0), (2, 0), (2, 69), (0, (i2 + 6))]) zr_0_1238 rfl (by decide) (by omega) rfl ?_
          refine zw_42 zr_0_1241 ?_
          exact zw_less (L := [(6, 0), (2, 0), (2, 69), (0, (i2 + 6))]) ⟨Or.inr rfl, Or.inr rfl, Or.inr rfl, Or.inr rfl, trivial⟩ (ihlp18_4 ((i2 + 6)) m3 hIm3 hFm3   (by omega) (by omega) (by assumption) (by omega))
        refine zw_111d (t := 1238) zr_0_33 (by omega) rfl ?_
        refine zw_15 (c := 6) (L' := [(6, 0), (2, 0), (2, 69), (0, (i2 + 6))]) zr_0_1238 rfl (by decide) (by omega) rfl ?_
        refine zw_42 zr_0_1241 ?_
        exact zw_less (L := [(6, 0), (2, 0), (2, 69), (0, (i2 + 6))]) ⟨Or.inr rfl, Or.inr rfl, Or.inr rfl, Or.inr rfl, trivial⟩ (ihlp18_4 ((i2 + 6)) m3 hIm3 hFm3   (by omega) (by omega) (by assumption) (by omega))
  exact lp18_4 _ (0) m0 hI0 hF0   (by omega) (by omega) (hK0) (Nat.lt_succ_self _)
