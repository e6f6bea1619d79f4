abbrev W_0 : List (Nat × Nat) := [(1, 0), (1, 1), (1, 2), (1, 3), (1, 4), (1, 5), (2, 1000), (3, 1000), (4, 1000), (5, 1000), (6, 1000), (7, 1000), (8, 1000), (9, 1000), (10, 1000), (11, 1000), (12, 1000), (13, 1000), (15, 0), (15, 1), (15, 2), (15, 3), (15, 4), (15, 5), (16, 1000), (17, 1000), (18, 1000), (19, 1000), (20, 1000), (21, 1000), (22, 1000), (23, 1000), (24, 1000), (25, 1000), (26, 1000), (27, 1000), (28, 0), (28, 1), (28, 2), (28, 3), (28, 4), (28, 5), (29, 1000), (30, 1000), (31, 1000), (32, 1000), (33, 1000), (34, 1000), (35, 1000), (36, 1000), (37, 1000), (38, 1000), (39, 1000), (40, 1000), (41, 1000), (42, 0), (42, 1), (43, 5), (44, 1000), (45, 1), (45, 5), (45, 6), (45, 7), (45, 8), (45, 9), (46, 1000), (47, 1000), (48, 1000), (49, 1000), (50, 1000), (51, 1000), (52, 0), (52, 1), (52, 2), (53, 1000), (54, 1000), (55, 5), (56, 1000), (57, 1000), (58, 1000), (59, 1000), (61, 1000), (62, 1000), (63, 0), (64, 1000), (65, 1000), (66, 1000), (67, 1000), (68, 1000), (69, 3), (69, 4), (69, 5), (69, 6), (69, 7), (69, 9), (69, 11), (69, 13), (69, 17), (69, 18), (69, 23), (69, 24), (70, 1000), (71, 1000), (72, 1000), (73, 1000), (74, 1000), (75, 1000), (76, 1000), (77, 1000), (78, 1000), (79, 1000), (80, 1000), (81, 1000), (82, 1000), (83, 1000), (84, 1000)]
set_option maxHeartbeats 40000000 in
theorem th_0 {E : zE} {d : Nat} {m0 : zM} (hd : 97 ≤ d) (hI0 : zInv m0) (hK0 : qK m0) {n1 : Int} (hn1 : (E.1 : Int) = n1) (hn2 : n1 ≤ 3072) : zW E d 0 18 [(6, 0), (2, 0), (2, 69), (0, 0)] [] m0 (fun v m' => ∃ r : Int, v = (0, r) ∧ 1 ≤ r ∧ r ≤ 1 ∧ zInv m' ∧ zFr W_0 m0 m') := by
  have hF0 : zFr W_0 m0 m0 := zFr.rfl
  generalize hQ : (fun (v : zV) (m' : zM) => ∃ r : Int, v = (0, r) ∧ 1 ≤ r ∧ r ≤ 1 ∧ zInv m' ∧ zFr W_0 m0 m') = Q
  have lp18_4 : ∀ (nlp18_4 : Nat) (i2 : Int) (m3 : zM), zInv m3 → zFr W_0 m0 m3 → 0 ≤ i2 → i2 ≤ 9999 → (qK m3) → (3078 - i2).toNat < nlp18_4 → zW E (d) 0 18 [(6, 0), (2, 0), (2, 69), (0, i2)] [] m3 Q := by
    intro nlp18_4
    induction nlp18_4 with
    | zero =>
      intros
      exact absurd (by assumption : _ < 0) (Nat.not_lt_zero _)
    | succ nlp18_4 ihlp18_4 =>
      intro i2 m3 hIm3 hFm3 li2 ui2 hv0lp18_4 hmlp18_4
      refine zw_3 zr_0_18 rfl ?_
      refine zw_7s zr_0_19 rfl ?_
      refine zw_101n zr_0_20 rfl (by omega) hn1 ?_
      refine zw_push zr_0_21 ?_
      refine zw_17 zr_0_23 (by omega) ?_
      refine zw_41_2 zr_0_24 ?_ ?_
      · intro h6
        refine zw_push zr_0_1244 ?_
        refine zw_R zr_0_1245 (by decide) zm_0 (v := (0, 1)) (zRetB (by omega)) ?_
        rw [← hQ]; exact ⟨_, rfl, by omega, by omega, hIm3, hFm3⟩
      · intro h7
        refine zw_7s zr_0_27 rfl ?_
        refine zw_3 zr_0_28 rfl ?_
        refine zw_100 zr_0_29 rfl (by omega) (by omega) ?_
        intro x8 ex8 hx8a hx8b
        clear ex8
        refine zw_push zr_0_30 ?_
        refine zw_21m zr_0_32 (by omega) (by omega) ?_
        intro x9 hx9a hx9b
        by_cases h10 : x9 = 0
        · refine zw_111 (t := 184) zr_0_33 (by rw [h10]; rfl) ?_
          refine zw_7 zr_0_184 rfl ?_
          refine zw_7s zr_0_185 rfl ?_
          refine zw_3 zr_0_186 rfl ?_
          refine zw_push zr_0_187 ?_
          refine zw_16 zr_0_188 (by omega) ?_
          refine zw_100 zr_0_189 rfl (by omega) (by omega) ?_
          intro x11 ex11 hx11a hx11b
          obtain ⟨f12, ef12⟩ : ∃ v, m3 1 0 = v := ⟨_, rfl⟩
          have bf12 := ib_1_0 hIm3
          rw [ef12] at bf12
          refine zw_C zr_0_190 (Or.inl rfl) zm_99 rfl rfl ⟨Nat.le_of_ble_eq_true rfl, Nat.le_of_ble_eq_true rfl, Nat.le_of_ble_eq_true rfl, rfl, by decide⟩ (by omega) (th_99 (d := d - 1) (by omega) hIm3 (a0 := x11) (g0 := f12)  (F2 := m3 2) ef12 rfl (by omega) ) ?_
          rintro _ m13 ⟨r14, rfl, hr14a, hr14b, hIm13, gm13, po0_r14, po1_r14, po2_r14⟩
          have hFm13 : zFr W_0 m0 m13 := hFm3.trans gm13 rfl
          show zW E (d) 0 193 [(6, 0), (2, 0), (2, 69), (0, i2)] [(0, r14)] m13 Q
          refine zw_115 zr_0_193 rfl ?_
          refine zw_7 zr_0_194 rfl ?_
          refine zw_7s zr_0_195 rfl ?_
          refine zw_3 zr_0_196 rfl ?_
          refine zw_push zr_0_197 ?_
          refine zw_16 zr_0_198 (by omega) ?_
          refine zw_100k zr_0_199 rfl (by omega) (by omega) ex11.symm ?_
          obtain ⟨f15, ef15⟩ : ∃ v, m13 70 822 = v := ⟨_, rfl⟩
          have bf15 : 0 ≤ m13 70 822 ∧ m13 70 822 ≤ 10 := ib_70_players hIm13 (by omega)
          rw [ef15] at bf15
          refine zw_C zr_0_200 (Or.inl rfl) zm_145 rfl rfl ⟨Nat.le_of_ble_eq_true rfl, Nat.le_of_ble_eq_true rfl, Nat.le_of_ble_eq_true rfl, rfl, by decide⟩ (by omega) (th_145 (d := d - 1) (by omega) hIm13 (a0 := x11) (g0 := f15)  (F70 := m13 70) ef15 rfl (by omega) ) ?_
          rintro _ m16 ⟨r17, rfl, hr17a, hr17b, hIm16, gm16, po0_r17, po1_r17⟩
          have hFm16 : zFr W_0 m0 m16 := hFm13.trans gm16 rfl
          show zW E (d) 0 203 [(6, 0), (2, 0), (2, 69), (0, i2)] [(0, r17)] m16 Q
          obtain ⟨hkz18, hrz18⟩ := zk_player hIm3 hv0lp18_4 gm13 ef12 po0_r14 po1_r14 po2_r14 gm16 ef15 po0_r17 po1_r17
          refine zw_115 zr_0_203 rfl ?_
          refine zw_42 zr_0_204 ?_
          refine zw_15 (c := 6) (L' := [(6, 0), (2, 0), (2, 69), (0, (i2 + 6))]) zr_0_1238 rfl (by decide) (by omega) rfl ?_
          refine zw_42 zr_0_1241 ?_
          exact zw_less (L := [(6, 0), (2, 0), (2, 69), (0, (i2 + 6))]) ⟨Or.inr rfl, Or.inr rfl, Or.inr rfl, Or.inr rfl, trivial⟩ (ihlp18_4 ((i2 + 6)) m16 hIm16 hFm16   (by omega) (by omega) (by assumption) (by omega))
        by_cases h20 : x9 = 1
        · refine zw_111 (t := 207) zr_0_33 (by rw [h20]; rfl) ?_
          refine zw_7 zr_0_207 rfl ?_
          refine zw_7s zr_0_208 rfl ?_
          refine zw_3 zr_0_209 rfl ?_
          refine zw_push zr_0_210 ?_
          refine zw_16 zr_0_211 (by omega) ?_
          refine zw_100 zr_0_212 rfl (by omega) (by omega) ?_
          intro x21 ex21 hx21a hx21b
          refine zw_7s zr_0_213 rfl ?_
          refine zw_3 zr_0_214 rfl ?_
          refine zw_push zr_0_215 ?_
          refine zw_16 zr_0_216 (by omega) ?_
          refine zw_100 zr_0_217 rfl (by omega) (by omega) ?_
          intro x22 ex22 hx22a hx22b
          refine zw_7s zr_0_218 rfl ?_
          refine zw_3 zr_0_219 rfl ?_
          refine zw_push zr_0_220 ?_
          refine zw_16 zr_0_221 (by omega) ?_
          refine zw_100 zr_0_222 rfl (by omega) (by omega) ?_
          intro x23 ex23 hx23a hx23b
          refine zw_7s zr_0_223 rfl ?_
          refine zw_3 zr_0_224 rfl ?_
          refine zw_push zr_0_225 ?_
          refine zw_16 zr_0_226 (by omega) ?_
          refine zw_100 zr_0_227 rfl (by omega) (by omega) ?_
          intro x24 ex24 hx24a hx24b
          refine zw_7s zr_0_228 rfl ?_
          refine zw_3 zr_0_229 rfl ?_
          refine zw_push zr_0_230 ?_
          refine zw_16 zr_0_231 (by omega) ?_
          refine zw_100 zr_0_232 rfl (by omega) (by omega) ?_
          intro x25 ex25 hx25a hx25b
          refine zw_40_1 zr_0_233 ?_ ?_
          · intro h26
            refine zw_push zr_0_240 ?_
            obtain ⟨f27, ef27⟩ : ∃ v, m3 1 0 = v := ⟨_, rfl⟩
            have bf27 := ib_1_0 hIm3
            rw [ef27] at bf27
            obtain ⟨f28, ef28⟩ : ∃ v, m3 1 1 = v := ⟨_, rfl⟩
            have bf28 := ib_1_1 hIm3
            rw [ef28] at bf28
            obtain ⟨f29, ef29⟩ : ∃ v, m3 1 2 = v := ⟨_, rfl⟩
            have bf29 := ib_1_2 hIm3
            rw [ef29] at bf29
            refine zw_C zr_0_241 (Or.inl rfl) zm_102 rfl rfl ⟨Nat.le_of_ble_eq_true rfl, Nat.le_of_ble_eq_true rfl, Nat.le_of_ble_eq_true rfl, rfl, by decide⟩ (by omega) (th_102 (d := d - 1) (by omega) hIm3 (a0 := x21) (a1 := x22) (a2 := x23) (a3 := x24) (a4 := 0) (g0 := f27) (g1 := f28) (g2 := f29)  (F5 := m3 5) (F6 := m3 6) (F7 := m3 7) (F8 := m3 8) ef27 ef28 ef29 rfl rfl rfl rfl (by omega) (by omega) (by omega) (by omega) (by omega) ) ?_
            rintro _ m30 ⟨r31, rfl, hr31a, hr31b, hIm30, gm30, po0_r31, po1_r31, po2_r31, po3_r31, po4_r31, po5_r31, po6_r31, po7_r31⟩
            have hFm30 : zFr W_0 m0 m30 := hFm3.trans gm30 rfl
            have km30_1_0 : m30 1 0 = f27 := (gm30 1 0 rfl).trans ef27
            show zW E (d) 0 244 [(6, 0), (2, 0), (2, 69), (0, i2)] [(0, r31)] m30 Q
            refine zw_115 zr_0_244 rfl ?_
            refine zw_7 zr_0_245 rfl ?_
            refine zw_7s zr_0_246 rfl ?_
            refine zw_3 zr_0_247 rfl ?_
            refine zw_push zr_0_248 ?_
            refine zw_16 zr_0_249 (by omega) ?_
            refine zw_100k zr_0_250 rfl (by omega) (by omega) ex21.symm ?_
            refine zw_7s zr_0_251 rfl ?_
            refine zw_3 zr_0_252 rfl ?_
            refine zw_push zr_0_253 ?_
            refine zw_16 zr_0_254 (by omega) ?_
            refine zw_100k zr_0_255 rfl (by omega) (by omega) ex22.symm ?_
            refine zw_7s zr_0_256 rfl ?_
            refine zw_3 zr_0_257 rfl ?_
            refine zw_push zr_0_258 ?_
            refine zw_16 zr_0_259 (by omega) ?_
            refine zw_100k zr_0_260 rfl (by omega) (by omega) ex23.symm ?_
            refine zw_7s zr_0_261 rfl ?_
            refine zw_3 zr_0_262 rfl ?_
            refine zw_push zr_0_263 ?_
            refine zw_16 zr_0_264 (by omega) ?_
            refine zw_100k zr_0_265 rfl (by omega) (by omega) ex24.symm ?_
            refine zw_7s zr_0_266 rfl ?_
            refine zw_3 zr_0_267 rfl ?_
            refine zw_push zr_0_268 ?_
            refine zw_16 zr_0_269 (by omega) ?_
            refine zw_100k zr_0_270 rfl (by omega) (by omega) ex25.symm ?_
            refine zw_40_1 zr_0_271 ?_ ?_
            · intro h32
              refine zw_push zr_0_278 ?_
              obtain ⟨f33, ef33⟩ : ∃ v, m30 70 822 = v := ⟨_, rfl⟩
              have bf33 : 0 ≤ m30 70 822 ∧ m30 70 822 ≤ 10 := ib_70_players hIm30 (by omega)
              rw [ef33] at bf33
              obtain ⟨f34, ef34⟩ : ∃ v, m30 70 823 = v := ⟨_, rfl⟩
              have bf34 : 0 ≤ m30 70 823 ∧ m30 70 823 ≤ 60 := ib_70_meetings hIm30 (by omega)
              rw [ef34] at bf34
              refine zw_C zr_0_279 (Or.inl rfl) zm_146 rfl rfl ⟨Nat.le_of_ble_eq_true rfl, Nat.le_of_ble_eq_true rfl, Nat.le_of_ble_eq_true rfl, rfl, by decide⟩ (by omega) (th_146 (d := d - 1) (by omega) hIm30 (a0 := x21) (a1 := x22) (a2 := x23) (a3 := x24) (a4 := 0) (g0 := f33) (g1 := f34)  (F70 := m30 70) ef33 ef34 rfl (by omega) (by omega) (by omega) (by omega) (by omega) ) ?_
              rintro _ m35 ⟨r36, rfl, hr36a, hr36b, hIm35, gm35, po0_r36, po1_r36⟩
              have hFm35 : zFr W_0 m0 m35 := hFm30.trans gm35 rfl
              have km35_1_0 : m35 1 0 = f27 := (gm35 1 0 rfl).trans km30_1_0
              show zW E (d) 0 282 [(6, 0), (2, 0), (2, 69), (0, i2)] [(0, r36)] m35 Q
              obtain ⟨hkz37, hrz37⟩ := zk_meeting hIm3 hv0lp18_4 gm30 ef27 ef28 ef29 po0_r31 po1_r31 po2_r31 po3_r31 po4_r31 po5_r31 po6_r31 po7_r31 gm35 ef33 ef34 po0_r36 po1_r36
              refine zw_115 zr_0_282 rfl ?_
              refine zw_42 zr_0_283 ?_
              refine zw_15 (c := 6) (L' := [(6, 0), (2, 0), (2, 69), (0, (i2 + 6))]) zr_0_1238 rfl (by decide) (by omega) rfl ?_
              refine zw_42 zr_0_1241 ?_
              exact zw_less (L := [(6, 0), (2, 0), (2, 69), (0, (i2 + 6))]) ⟨Or.inr rfl, Or.inr rfl, Or.inr rfl, Or.inr rfl, trivial⟩ (ihlp18_4 ((i2 + 6)) m35 hIm35 hFm35   (by omega) (by omega) (by assumption) (by omega))
            · intro h39; omega
          · intro h40
            refine zw_push zr_0_236 ?_
            refine zw_42 zr_0_237 ?_
            obtain ⟨f41, ef41⟩ : ∃ v, m3 1 0 = v := ⟨_, rfl⟩
            have bf41 := ib_1_0 hIm3
            rw [ef41] at bf41
            obtain ⟨f42, ef42⟩ : ∃ v, m3 1 1 = v := ⟨_, rfl⟩
            have bf42 := ib_1_1 hIm3
            rw [ef42] at bf42
            obtain ⟨f43, ef43⟩ : ∃ v, m3 1 2 = v := ⟨_, rfl⟩
            have bf43 := ib_1_2 hIm3
            rw [ef43] at bf43
            refine zw_C zr_0_241 (Or.inl rfl) zm_102 rfl rfl ⟨Nat.le_of_ble_eq_true rfl, Nat.le_of_ble_eq_true rfl, Nat.le_of_ble_eq_true rfl, rfl, by decide⟩ (by omega) (th_102 (d := d - 1) (by omega) hIm3 (a0 := x21) (a1 := x22) (a2 := x23) (a3 := x24) (a4 := 1) (g0 := f41) (g1 := f42) (g2 := f43)  (F5 := m3 5) (F6 := m3 6) (F7 := m3 7) (F8 := m3 8) ef41 ef42 ef43 rfl rfl rfl rfl (by omega) (by omega) (by omega) (by omega) (by omega) ) ?_
            rintro _ m44 ⟨r45, rfl, hr45a, hr45b, hIm44, gm44, po0_r45, po1_r45, po2_r45, po3_r45, po4_r45, po5_r45, po6_r45, po7_r45⟩
            have hFm44 : zFr W_0 m0 m44 := hFm3.trans gm44 rfl
            have km44_1_0 : m44 1 0 = f41 := (gm44 1 0 rfl).trans ef41
            show zW E (d) 0 244 [(6, 0), (2, 0), (2, 69), (0, i2)] [(0, r45)] m44 Q
            refine zw_115 zr_0_244 rfl ?_
            refine zw_7 zr_0_245 rfl ?_
            refine zw_7s zr_0_246 rfl ?_
            refine zw_3 zr_0_247 rfl ?_
            refine zw_push zr_0_248 ?_
            refine zw_16 zr_0_249 (by omega) ?_
            refine zw_100k zr_0_250 rfl (by omega) (by omega) ex21.symm ?_
            refine zw_7s zr_0_251 rfl ?_
            refine zw_3 zr_0_252 rfl ?_
            refine zw_push zr_0_253 ?_
            refine zw_16 zr_0_254 (by omega) ?_
            refine zw_100k zr_0_255 rfl (by omega) (by omega) ex22.symm ?_
            refine zw_7s zr_0_256 rfl ?_
            refine zw_3 zr_0_257 rfl ?_
            refine zw_push zr_0_258 ?_
            refine zw_16 zr_0_259 (by omega) ?_
            refine zw_100k zr_0_260 rfl (by omega) (by omega) ex23.symm ?_
            refine zw_7s zr_0_261 rfl ?_
            refine zw_3 zr_0_262 rfl ?_
            refine zw_push zr_0_263 ?_
            refine zw_16 zr_0_264 (by omega) ?_
            refine zw_100k zr_0_265 rfl (by omega) (by omega) ex24.symm ?_
            refine zw_7s zr_0_266 rfl ?_
            refine zw_3 zr_0_267 rfl ?_
            refine zw_push zr_0_268 ?_
            refine zw_16 zr_0_269 (by omega) ?_
            refine zw_100k zr_0_270 rfl (by omega) (by omega) ex25.symm ?_
            refine zw_40_1 zr_0_271 ?_ ?_
            · intro h46; omega
            · intro h47
              refine zw_push zr_0_274 ?_
              refine zw_42 zr_0_275 ?_
              obtain ⟨f48, ef48⟩ : ∃ v, m44 70 822 = v := ⟨_, rfl⟩
              have bf48 : 0 ≤ m44 70 822 ∧ m44 70 822 ≤ 10 := ib_70_players hIm44 (by omega)
              rw [ef48] at bf48
              obtain ⟨f49, ef49⟩ : ∃ v, m44 70 823 = v := ⟨_, rfl⟩
              have bf49 : 0 ≤ m44 70 823 ∧ m44 70 823 ≤ 60 := ib_70_meetings hIm44 (by omega)
              rw [ef49] at bf49
              refine zw_C zr_0_279 (Or.inl rfl) zm_146 rfl rfl ⟨Nat.le_of_ble_eq_true rfl, Nat.le_of_ble_eq_true rfl, Nat.le_of_ble_eq_true rfl, rfl, by decide⟩ (by omega) (th_146 (d := d - 1) (by omega) hIm44 (a0 := x21) (a1 := x22) (a2 := x23) (a3 := x24) (a4 := 1) (g0 := f48) (g1 := f49)  (F70 := m44 70) ef48 ef49 rfl (by omega) (by omega) (by omega) (by omega) (by omega) ) ?_
              rintro _ m50 ⟨r51, rfl, hr51a, hr51b, hIm50, gm50, po0_r51, po1_r51⟩
              have hFm50 : zFr W_0 m0 m50 := hFm44.trans gm50 rfl
              have km50_1_0 : m50 1 0 = f41 := (gm50 1 0 rfl).trans km44_1_0
              show zW E (d) 0 282 [(6, 0), (2, 0), (2, 69), (0, i2)] [(0, r51)] m50 Q
              obtain ⟨hkz52, hrz52⟩ := zk_meeting hIm3 hv0lp18_4 gm44 ef41 ef42 ef43 po0_r45 po1_r45 po2_r45 po3_r45 po4_r45 po5_r45 po6_r45 po7_r45 gm50 ef48 ef49 po0_r51 po1_r51
              refine zw_115 zr_0_282 rfl ?_
              refine zw_42 zr_0_283 ?_
              refine zw_15 (c := 6) (L' := [(6, 0), (2, 0), (2, 69), (0, (i2 + 6))]) zr_0_1238 rfl (by decide) (by omega) rfl ?_
              refine zw_42 zr_0_1241 ?_
              exact zw_less (L := [(6, 0), (2, 0), (2, 69), (0, (i2 + 6))]) ⟨Or.inr rfl, Or.inr rfl, Or.inr rfl, Or.inr rfl, trivial⟩ (ihlp18_4 ((i2 + 6)) m50 hIm50 hFm50   (by omega) (by omega) (by assumption) (by omega))
        by_cases h54 : x9 = 2
        · refine zw_111 (t := 286) zr_0_33 (by rw [h54]; rfl) ?_
          refine zw_7 zr_0_286 rfl ?_
          refine zw_7s zr_0_287 rfl ?_
          refine zw_3 zr_0_288 rfl ?_
          refine zw_push zr_0_289 ?_
          refine zw_16 zr_0_290 (by omega) ?_
          refine zw_100 zr_0_291 rfl (by omega) (by omega) ?_
          intro x55 ex55 hx55a hx55b
          refine zw_7s zr_0_292 rfl ?_
          refine zw_3 zr_0_293 rfl ?_
          refine zw_push zr_0_294 ?_
          refine zw_16 zr_0_295 (by omega) ?_
          refine zw_100 zr_0_296 rfl (by omega) (by omega) ?_
          intro x56 ex56 hx56a hx56b
          refine zw_7s zr_0_297 rfl ?_
          refine zw_3 zr_0_298 rfl ?_
          refine zw_push zr_0_299 ?_
          refine zw_16 zr_0_300 (by omega) ?_
          refine zw_100 zr_0_301 rfl (by omega) (by omega) ?_
          intro x57 ex57 hx57a hx57b
          refine zw_40_1 zr_0_302 ?_ ?_
          · intro h58
            refine zw_push zr_0_309 ?_
            obtain ⟨f59, ef59⟩ : ∃ v, m3 1 1 = v := ⟨_, rfl⟩
            have bf59 := ib_1_1 hIm3
            rw [ef59] at bf59
            obtain ⟨f60, ef60⟩ : ∃ v, m3 1 2 = v := ⟨_, rfl⟩
            have bf60 := ib_1_2 hIm3
            rw [ef60] at bf60
            obtain ⟨f61, ef61⟩ : ∃ v, m3 1 3 = v := ⟨_, rfl⟩
            have bf61 := ib_1_3 hIm3
            rw [ef61] at bf61
            refine zw_C zr_0_310 (Or.inl rfl) zm_103 rfl rfl ⟨Nat.le_of_ble_eq_true rfl, Nat.le_of_ble_eq_true rfl, Nat.le_of_ble_eq_true rfl, rfl, by decide⟩ (by omega) (th_103 (d := d - 1) (by omega) hIm3 (a0 := x55) (a1 := x56) (a2 := 0) (g0 := f59) (g1 := f60) (g2 := f61)   ef59 ef60 ef61  (by omega) (by omega) (by omega) ) ?_
            rintro _ m62 ⟨r63, rfl, hr63a, hr63b, hIm62, gm62, po0_r63, po1_r63, po2_r63⟩
            have hFm62 : zFr W_0 m0 m62 := hFm3.trans gm62 rfl
            have km62_1_1 : m62 1 1 = f59 := (gm62 1 1 rfl).trans ef59
            show zW E (d) 0 313 [(6, 0), (2, 0), (2, 69), (0, i2)] [(0, r63)] m62 Q
            refine zw_115 zr_0_313 rfl ?_
            refine zw_7 zr_0_314 rfl ?_
            refine zw_7s zr_0_315 rfl ?_
            refine zw_3 zr_0_316 rfl ?_
            refine zw_push zr_0_317 ?_
            refine zw_16 zr_0_318 (by omega) ?_
            refine zw_100k zr_0_319 rfl (by omega) (by omega) ex55.symm ?_
            refine zw_7s zr_0_320 rfl ?_
            refine zw_3 zr_0_321 rfl ?_
            refine zw_push zr_0_322 ?_
            refine zw_16 zr_0_323 (by omega) ?_
            refine zw_100k zr_0_324 rfl (by omega) (by omega) ex56.symm ?_
            refine zw_7s zr_0_325 rfl ?_
            refine zw_3 zr_0_326 rfl ?_
            refine zw_push zr_0_327 ?_
            refine zw_16 zr_0_328 (by omega) ?_
            refine zw_100k zr_0_329 rfl (by omega) (by omega) ex57.symm ?_
            refine zw_40_1 zr_0_330 ?_ ?_
            · intro h64
              refine zw_push zr_0_337 ?_
              obtain ⟨f65, ef65⟩ : ∃ v, m62 70 823 = v := ⟨_, rfl⟩
              have bf65 : 0 ≤ m62 70 823 ∧ m62 70 823 ≤ 60 := ib_70_meetings hIm62 (by omega)
              rw [ef65] at bf65
              refine zw_C zr_0_338 (Or.inl rfl) zm_147 rfl rfl ⟨Nat.le_of_ble_eq_true rfl, Nat.le_of_ble_eq_true rfl, Nat.le_of_ble_eq_true rfl, rfl, by decide⟩ (by omega) (th_147 (d := d - 1) (by omega) hIm62 (a0 := x55) (a1 := x56) (a2 := 0) (g0 := f65)  (F70 := m62 70) ef65 rfl (by omega) (by omega) (by omega) ) ?_
              rintro _ m66 ⟨r67, rfl, hr67a, hr67b, hIm66, gm66, po0_r67, po1_r67⟩
              have hFm66 : zFr W_0 m0 m66 := hFm62.trans gm66 rfl
              have km66_1_1 : m66 1 1 = f59 := (gm66 1 1 rfl).trans km62_1_1
              show zW E (d) 0 341 [(6, 0), (2, 0), (2, 69), (0, i2)] [(0, r67)] m66 Q
              obtain ⟨hkz68, hrz68⟩ := zk_mark hIm3 hv0lp18_4 gm62 ef59 ef60 ef61 po0_r63 po1_r63 po2_r63 gm66 ef65 po0_r67 po1_r67
              refine zw_115 zr_0_341 rfl ?_
              refine zw_42 zr_0_342 ?_
              refine zw_15 (c := 6) (L' := [(6, 0), (2, 0), (2, 69), (0, (i2 + 6))]) zr_0_1238 rfl (by decide) (by omega) rfl ?_
              refine zw_42 zr_0_1241 ?_
              exact zw_less (L := [(6, 0), (2, 0), (2, 69), (0, (i2 + 6))]) ⟨Or.inr rfl, Or.inr rfl, Or.inr rfl, Or.inr rfl, trivial⟩ (ihlp18_4 ((i2 + 6)) m66 hIm66 hFm66   (by omega) (by omega) (by assumption) (by omega))
            · intro h70; omega
          · intro h71
            refine zw_push zr_0_305 ?_
            refine zw_42 zr_0_306 ?_
            obtain ⟨f72, ef72⟩ : ∃ v, m3 1 1 = v := ⟨_, rfl⟩
            have bf72 := ib_1_1 hIm3
            rw [ef72] at bf72
            obtain ⟨f73, ef73⟩ : ∃ v, m3 1 2 = v := ⟨_, rfl⟩
            have bf73 := ib_1_2 hIm3
            rw [ef73] at bf73
            obtain ⟨f74, ef74⟩ : ∃ v, m3 1 3 = v := ⟨_, rfl⟩
            have bf74 := ib_1_3 hIm3
            rw [ef74] at bf74
            refine zw_C zr_0_310 (Or.inl rfl) zm_103 rfl rfl ⟨Nat.le_of_ble_eq_true rfl, Nat.le_of_ble_eq_true rfl, Nat.le_of_ble_eq_true rfl, rfl, by decide⟩ (by omega) (th_103 (d := d - 1) (by omega) hIm3 (a0 := x55) (a1 := x56) (a2 := 1) (g0 := f72) (g1 := f73) (g2 := f74)   ef72 ef73 ef74  (by omega) (by omega) (by omega) ) ?_
            rintro _ m75 ⟨r76, rfl, hr76a, hr76b, hIm75, gm75, po0_r76, po1_r76, po2_r76⟩
            have hFm75 : zFr W_0 m0 m75 := hFm3.trans gm75 rfl
            have km75_1_1 : m75 1 1 = f72 := (gm75 1 1 rfl).trans ef72
            show zW E (d) 0 313 [(6, 0), (2, 0), (2, 69), (0, i2)] [(0, r76)] m75 Q
            refine zw_115 zr_0_313 rfl ?_
            refine zw_7 zr_0_314 rfl ?_
            refine zw_7s zr_0_315 rfl ?_
            refine zw_3 zr_0_316 rfl ?_
            refine zw_push zr_0_317 ?_
            refine zw_16 zr_0_318 (by omega) ?_
            refine zw_100k zr_0_319 rfl (by omega) (by omega) ex55.symm ?_
            refine zw_7s zr_0_320 rfl ?_
            refine zw_3 zr_0_321 rfl ?_
            refine zw_push zr_0_322 ?_
            refine zw_16 zr_0_323 (by omega) ?_
            refine zw_100k zr_0_324 rfl (by omega) (by omega) ex56.symm ?_
            refine zw_7s zr_0_325 rfl ?_
            refine zw_3 zr_0_326 rfl ?_
            refine zw_push zr_0_327 ?_
            refine zw_16 zr_0_328 (by omega) ?_
            refine zw_100k zr_0_329 rfl (by omega) (by omega) ex57.symm ?_
            refine zw_40_1 zr_0_330 ?_ ?_
            · intro h77; omega
            · intro h78
              refine zw_push zr_0_333 ?_
              refine zw_42 zr_0_334 ?_
              obtain ⟨f79, ef79⟩ : ∃ v, m75 70 823 = v := ⟨_, rfl⟩
              have bf79 : 0 ≤ m75 70 823 ∧ m75 70 823 ≤ 60 := ib_70_meetings hIm75 (by omega)
              rw [ef79] at bf79
              refine zw_C zr_0_338 (Or.inl rfl) zm_147 rfl rfl ⟨Nat.le_of_ble_eq_true rfl, Nat.le_of_ble_eq_true rfl, Nat.le_of_ble_eq_true rfl, rfl, by decide⟩ (by omega) (th_147 (d := d - 1) (by omega) hIm75 (a0 := x55) (a1 := x56) (a2 := 1) (g0 := f79)  (F70 := m75 70) ef79 rfl (by omega) (by omega) (by omega) ) ?_
              rintro _ m80 ⟨r81, rfl, hr81a, hr81b, hIm80, gm80, po0_r81, po1_r81⟩
              have hFm80 : zFr W_0 m0 m80 := hFm75.trans gm80 rfl
              have km80_1_1 : m80 1 1 = f72 := (gm80 1 1 rfl).trans km75_1_1
              show zW E (d) 0 341 [(6, 0), (2, 0), (2, 69), (0, i2)] [(0, r81)] m80 Q
              obtain ⟨hkz82, hrz82⟩ := zk_mark hIm3 hv0lp18_4 gm75 ef72 ef73 ef74 po0_r76 po1_r76 po2_r76 gm80 ef79 po0_r81 po1_r81
              refine zw_115 zr_0_341 rfl ?_
              refine zw_42 zr_0_342 ?_
              refine zw_15 (c := 6) (L' := [(6, 0), (2, 0), (2, 69), (0, (i2 + 6))]) zr_0_1238 rfl (by decide) (by omega) rfl ?_
              refine zw_42 zr_0_1241 ?_
              exact zw_less (L := [(6, 0), (2, 0), (2, 69), (0, (i2 + 6))]) ⟨Or.inr rfl, Or.inr rfl, Or.inr rfl, Or.inr rfl, trivial⟩ (ihlp18_4 ((i2 + 6)) m80 hIm80 hFm80   (by omega) (by omega) (by assumption) (by omega))
        by_cases h84 : x9 = 3
        · refine zw_111 (t := 345) zr_0_33 (by rw [h84]; rfl) ?_
          refine zw_7 zr_0_345 rfl ?_
          refine zw_7s zr_0_346 rfl ?_
          refine zw_3 zr_0_347 rfl ?_
          refine zw_push zr_0_348 ?_
          refine zw_16 zr_0_349 (by omega) ?_
          refine zw_100 zr_0_350 rfl (by omega) (by omega) ?_
          intro x85 ex85 hx85a hx85b
          refine zw_7s zr_0_351 rfl ?_
          refine zw_3 zr_0_352 rfl ?_
          refine zw_push zr_0_353 ?_
          refine zw_16 zr_0_354 (by omega) ?_
          refine zw_100 zr_0_355 rfl (by omega) (by omega) ?_
          intro x86 ex86 hx86a hx86b
          refine zw_C zr_0_356 (Or.inl rfl) zm_105 rfl rfl ⟨Nat.le_of_ble_eq_true rfl, Nat.le_of_ble_eq_true rfl, Nat.le_of_ble_eq_true rfl, rfl, by decide⟩ (by omega) (th_105 (d := d - 1) (by omega) hIm3 (a0 := x85) (a1 := x86)   (F9 := m3 9)  rfl (by omega) (by omega) ) ?_
          rintro _ m87 ⟨r88, rfl, hr88a, hr88b, hIm87, gm87, po0_r88, po1_r88⟩
          have hFm87 : zFr W_0 m0 m87 := hFm3.trans gm87 rfl
          show zW E (d) 0 359 [(6, 0), (2, 0), (2, 69), (0, i2)] [(0, r88)] m87 Q
          refine zw_115 zr_0_359 rfl ?_
          refine zw_7 zr_0_360 rfl ?_
          refine zw_7s zr_0_361 rfl ?_
          refine zw_3 zr_0_362 rfl ?_
          refine zw_push zr_0_363 ?_
          refine zw_16 zr_0_364 (by omega) ?_
          refine zw_100k zr_0_365 rfl (by omega) (by omega) ex85.symm ?_
          refine zw_7s zr_0_366 rfl ?_
          refine zw_3 zr_0_367 rfl ?_
          refine zw_push zr_0_368 ?_
          refine zw_16 zr_0_369 (by omega) ?_
          refine zw_100k zr_0_370 rfl (by omega) (by omega) ex86.symm ?_
          refine zw_C zr_0_371 (Or.inl rfl) zm_149 rfl rfl ⟨Nat.le_of_ble_eq_true rfl, Nat.le_of_ble_eq_true rfl, Nat.le_of_ble_eq_true rfl, rfl, by decide⟩ (by omega) (th_149 (d := d - 1) (by omega) hIm87 (a0 := x85) (a1 := x86)   (F70 := m87 70)  rfl (by omega) (by omega) ) ?_
          rintro _ m89 ⟨r90, rfl, hr90a, hr90b, hIm89, gm89, po0_r90, po1_r90⟩
          have hFm89 : zFr W_0 m0 m89 := hFm87.trans gm89 rfl
          show zW E (d) 0 374 [(6, 0), (2, 0), (2, 69), (0, i2)] [(0, r90)] m89 Q
          obtain ⟨hkz91, hrz91⟩ := zk_first hIm3 hv0lp18_4 gm87 po0_r88 po1_r88 gm89 po0_r90 po1_r90
          refine zw_115 zr_0_374 rfl ?_
          refine zw_42 zr_0_375 ?_
          refine zw_15 (c := 6) (L' := [(6, 0), (2, 0), (2, 69), (0, (i2 + 6))]) zr_0_1238 rfl (by decide) (by omega) rfl ?_
          refine zw_42 zr_0_1241 ?_
          exact zw_less (L := [(6, 0), (2, 0), (2, 69), (0, (i2 + 6))]) ⟨Or.inr rfl, Or.inr rfl, Or.inr rfl, Or.inr rfl, trivial⟩ (ihlp18_4 ((i2 + 6)) m89 hIm89 hFm89   (by omega) (by omega) (by assumption) (by omega))
        by_cases h93 : x9 = 4
        · refine zw_111 (t := 378) zr_0_33 (by rw [h93]; rfl) ?_
          refine zw_7 zr_0_378 rfl ?_
          refine zw_7s zr_0_379 rfl ?_
          refine zw_3 zr_0_380 rfl ?_
          refine zw_push zr_0_381 ?_
          refine zw_16 zr_0_382 (by omega) ?_
          refine zw_100 zr_0_383 rfl (by omega) (by omega) ?_
          intro x94 ex94 hx94a hx94b
          refine zw_7s zr_0_384 rfl ?_
          refine zw_3 zr_0_385 rfl ?_
          refine zw_push zr_0_386 ?_
          refine zw_16 zr_0_387 (by omega) ?_
          refine zw_100 zr_0_388 rfl (by omega) (by omega) ?_
          intro x95 ex95 hx95a hx95b
          refine zw_C zr_0_389 (Or.inl rfl) zm_106 rfl rfl ⟨Nat.le_of_ble_eq_true rfl, Nat.le_of_ble_eq_true rfl, Nat.le_of_ble_eq_true rfl, rfl, by decide⟩ (by omega) (th_106 (d := d - 1) (by omega) hIm3 (a0 := x94) (a1 := x95)   (F10 := m3 10) (F11 := m3 11)  rfl rfl (by omega) (by omega) ) ?_
          rintro _ m96 ⟨r97, rfl, hr97a, hr97b, hIm96, gm96, po0_r97, po1_r97, po2_r97⟩
          have hFm96 : zFr W_0 m0 m96 := hFm3.trans gm96 rfl
          show zW E (d) 0 392 [(6, 0), (2, 0), (2, 69), (0, i2)] [(0, r97)] m96 Q
          refine zw_115 zr_0_392 rfl ?_
          refine zw_7 zr_0_393 rfl ?_
          refine zw_7s zr_0_394 rfl ?_
          refine zw_3 zr_0_395 rfl ?_
          refine zw_push zr_0_396 ?_
          refine zw_16 zr_0_397 (by omega) ?_
          refine zw_100k zr_0_398 rfl (by omega) (by omega) ex94.symm ?_
          refine zw_7s zr_0_399 rfl ?_
          refine zw_3 zr_0_400 rfl ?_
          refine zw_push zr_0_401 ?_
          refine zw_16 zr_0_402 (by omega) ?_
          refine zw_100k zr_0_403 rfl (by omega) (by omega) ex95.symm ?_
          refine zw_C zr_0_404 (Or.inl rfl) zm_150 rfl rfl ⟨Nat.le_of_ble_eq_true rfl, Nat.le_of_ble_eq_true rfl, Nat.le_of_ble_eq_true rfl, rfl, by decide⟩ (by omega) (th_150 (d := d - 1) (by omega) hIm96 (a0 := x94) (a1 := x95)   (F70 := m96 70)  rfl (by omega) (by omega) ) ?_
          rintro _ m98 ⟨r99, rfl, hr99a, hr99b, hIm98, gm98, po0_r99, po1_r99⟩
          have hFm98 : zFr W_0 m0 m98 := hFm96.trans gm98 rfl
          show zW E (d) 0 407 [(6, 0), (2, 0), (2, 69), (0, i2)] [(0, r99)] m98 Q
          obtain ⟨hkz100, hrz100⟩ := zk_write hIm3 hv0lp18_4 gm96 po0_r97 po1_r97 po2_r97 gm98 po0_r99 po1_r99
          refine zw_115 zr_0_407 rfl ?_
          refine zw_42 zr_0_408 ?_
          refine zw_15 (c := 6) (L' := [(6, 0), (2, 0), (2, 69), (0, (i2 + 6))]) zr_0_1238 rfl (by decide) (by omega) rfl ?_
          refine zw_42 zr_0_1241 ?_
          exact zw_less (L := [(6, 0), (2, 0), (2, 69), (0, (i2 + 6))]) ⟨Or.inr rfl, Or.inr rfl, Or.inr rfl, Or.inr rfl, trivial⟩ (ihlp18_4 ((i2 + 6)) m98 hIm98 hFm98   (by omega) (by omega) (by assumption) (by omega))
        by_cases h102 : x9 = 5
        · refine zw_111 (t := 411) zr_0_33 (by rw [h102]; rfl) ?_
          refine zw_7 zr_0_411 rfl ?_
          refine zw_7s zr_0_412 rfl ?_
          refine zw_3 zr_0_413 rfl ?_
          refine zw_push zr_0_414 ?_
          refine zw_16 zr_0_415 (by omega) ?_
          refine zw_100 zr_0_416 rfl (by omega) (by omega) ?_
          intro x103 ex103 hx103a hx103b
          refine zw_C zr_0_417 (Or.inl rfl) zm_107 rfl rfl ⟨Nat.le_of_ble_eq_true rfl, Nat.le_of_ble_eq_true rfl, Nat.le_of_ble_eq_true rfl, rfl, by decide⟩ (by omega) (th_107 (d := d - 1) (by omega) hIm3 (a0 := x103)   (F10 := m3 10)  rfl (by omega) ) ?_
          rintro _ m104 ⟨r105, rfl, hr105a, hr105b, hIm104, gm104, po0_r105, po1_r105⟩
          have hFm104 : zFr W_0 m0 m104 := hFm3.trans gm104 rfl
          show zW E (d) 0 420 [(6, 0), (2, 0), (2, 69), (0, i2)] [(0, r105)] m104 Q
          refine zw_115 zr_0_420 rfl ?_
          refine zw_7 zr_0_421 rfl ?_
          refine zw_7s zr_0_422 rfl ?_
          refine zw_3 zr_0_423 rfl ?_
          refine zw_push zr_0_424 ?_
          refine zw_16 zr_0_425 (by omega) ?_
          refine zw_100k zr_0_426 rfl (by omega) (by omega) ex103.symm ?_
          refine zw_C zr_0_427 (Or.inl rfl) zm_151 rfl rfl ⟨Nat.le_of_ble_eq_true rfl, Nat.le_of_ble_eq_true rfl, Nat.le_of_ble_eq_true rfl, rfl, by decide⟩ (by omega) (th_151 (d := d - 1) (by omega) hIm104 (a0 := x103)   (F70 := m104 70)  rfl (by omega) ) ?_
          rintro _ m106 ⟨r107, rfl, hr107a, hr107b, hIm106, gm106, po0_r107, po1_r107⟩
          have hFm106 : zFr W_0 m0 m106 := hFm104.trans gm106 rfl
          show zW E (d) 0 430 [(6, 0), (2, 0), (2, 69), (0, i2)] [(0, r107)] m106 Q
          obtain ⟨hkz108, hrz108⟩ := zk_erase hIm3 hv0lp18_4 gm104 po0_r105 po1_r105 gm106 po0_r107 po1_r107
          refine zw_115 zr_0_430 rfl ?_
          refine zw_42 zr_0_431 ?_
          refine zw_15 (c := 6) (L' := [(6, 0), (2, 0), (2, 69), (0, (i2 + 6))]) zr_0_1238 rfl (by decide) (by omega) rfl ?_
          refine zw_42 zr_0_1241 ?_
          exact zw_less (L := [(6, 0), (2, 0), (2, 69), (0, (i2 + 6))]) ⟨Or.inr rfl, Or.inr rfl, Or.inr rfl, Or.inr rfl, trivial⟩ (ihlp18_4 ((i2 + 6)) m106 hIm106 hFm106   (by omega) (by omega) (by assumption) (by omega))
        by_cases h110 : x9 = 6
        · refine zw_111 (t := 434) zr_0_33 (by rw [h110]; rfl) ?_
          refine zw_7 zr_0_434 rfl ?_
          refine zw_7s zr_0_435 rfl ?_
          refine zw_3 zr_0_436 rfl ?_
          refine zw_push zr_0_437 ?_
          refine zw_16 zr_0_438 (by omega) ?_
          refine zw_100 zr_0_439 rfl (by omega) (by omega) ?_
          intro x111 ex111 hx111a hx111b
          refine zw_C zr_0_440 (Or.inl rfl) zm_108 rfl rfl ⟨Nat.le_of_ble_eq_true rfl, Nat.le_of_ble_eq_true rfl, Nat.le_of_ble_eq_true rfl, rfl, by decide⟩ (by omega) (th_108 (d := d - 1) (by omega) hIm3 (a0 := x111)      (by omega) ) ?_
          rintro _ m112 ⟨r113, rfl, hr113a, hr113b, hIm112, gm112⟩
          have hFm112 : zFr W_0 m0 m112 := hFm3.trans gm112 rfl
          show zW E (d) 0 443 [(6, 0), (2, 0), (2, 69), (0, i2)] [(0, r113)] m112 Q
          refine zw_115 zr_0_443 rfl ?_
          refine zw_7 zr_0_444 rfl ?_
          refine zw_7s zr_0_445 rfl ?_
          refine zw_3 zr_0_446 rfl ?_
          refine zw_push zr_0_447 ?_
          refine zw_16 zr_0_448 (by omega) ?_
          refine zw_100k zr_0_449 rfl (by omega) (by omega) ex111.symm ?_
          refine zw_C zr_0_450 (Or.inl rfl) zm_163 rfl rfl ⟨Nat.le_of_ble_eq_true rfl, Nat.le_of_ble_eq_true rfl, Nat.le_of_ble_eq_true rfl, rfl, by decide⟩ (by omega) (th_163 (d := d - 1) (by omega) hIm112 (a0 := x111)      (by omega) ) ?_
          rintro _ m114 ⟨r115, rfl, hr115a, hr115b, hIm114, gm114⟩
          have hFm114 : zFr W_0 m0 m114 := hFm112.trans gm114 rfl
          show zW E (d) 0 453 [(6, 0), (2, 0), (2, 69), (0, i2)] [(0, r115)] m114 Q
          have hkz116_0 := zk_fr hv0lp18_4 gm112
          have hkz116_1 := zk_fr hkz116_0 gm114
          refine zw_115 zr_0_453 rfl ?_
          refine zw_42 zr_0_454 ?_
          refine zw_15 (c := 6) (L' := [(6, 0), (2, 0), (2, 69), (0, (i2 + 6))]) zr_0_1238 rfl (by decide) (by omega) rfl ?_
          refine zw_42 zr_0_1241 ?_
          exact zw_less (L := [(6, 0), (2, 0), (2, 69), (0, (i2 + 6))]) ⟨Or.inr rfl, Or.inr rfl, Or.inr rfl, Or.inr rfl, trivial⟩ (ihlp18_4 ((i2 + 6)) m114 hIm114 hFm114   (by omega) (by omega) (by assumption) (by omega))
        by_cases h118 : x9 = 7
        · refine zw_111 (t := 457) zr_0_33 (by rw [h118]; rfl) ?_
          refine zw_7 zr_0_457 rfl ?_
          refine zw_7s zr_0_458 rfl ?_
          refine zw_3 zr_0_459 rfl ?_
          refine zw_push zr_0_460 ?_
          refine zw_16 zr_0_461 (by omega) ?_
          refine zw_100 zr_0_462 rfl (by omega) (by omega) ?_
          intro x119 ex119 hx119a hx119b
          refine zw_7s zr_0_463 rfl ?_
          refine zw_3 zr_0_464 rfl ?_
          refine zw_push zr_0_465 ?_
          refine zw_16 zr_0_466 (by omega) ?_
          refine zw_100 zr_0_467 rfl (by omega) (by omega) ?_
          intro x120 ex120 hx120a hx120b
          refine zw_7s zr_0_468 rfl ?_
          refine zw_3 zr_0_469 rfl ?_
          refine zw_push zr_0_470 ?_
          refine zw_16 zr_0_471 (by omega) ?_
          refine zw_100 zr_0_472 rfl (by omega) (by omega) ?_
          intro x121 ex121 hx121a hx121b
          refine zw_C zr_0_473 (Or.inl rfl) zm_109 rfl rfl ⟨Nat.le_of_ble_eq_true rfl, Nat.le_of_ble_eq_true rfl, Nat.le_of_ble_eq_true rfl, rfl, by decide⟩ (by omega) (th_109 (d := d - 1) (by omega) hIm3 (a0 := x119) (a1 := x120) (a2 := x121)      (by omega) (by omega) (by omega) ) ?_
          rintro _ m122 ⟨r123, rfl, hr123a, hr123b, hIm122, gm122⟩
          have hFm122 : zFr W_0 m0 m122 := hFm3.trans gm122 rfl
          show zW E (d) 0 476 [(6, 0), (2, 0), (2, 69), (0, i2)] [(0, r123)] m122 Q
          refine zw_115 zr_0_476 rfl ?_
          refine zw_7 zr_0_477 rfl ?_
          refine zw_7s zr_0_478 rfl ?_
          refine zw_3 zr_0_479 rfl ?_
          refine zw_push zr_0_480 ?_
          refine zw_16 zr_0_481 (by omega) ?_
          refine zw_100k zr_0_482 rfl (by omega) (by omega) ex119.symm ?_
          refine zw_7s zr_0_483 rfl ?_
          refine zw_3 zr_0_484 rfl ?_
          refine zw_push zr_0_485 ?_
          refine zw_16 zr_0_486 (by omega) ?_
          refine zw_100k zr_0_487 rfl (by omega) (by omega) ex120.symm ?_
          refine zw_7s zr_0_488 rfl ?_
          refine zw_3 zr_0_489 rfl ?_
          refine zw_push zr_0_490 ?_
          refine zw_16 zr_0_491 (by omega) ?_
          refine zw_100k zr_0_492 rfl (by omega) (by omega) ex121.symm ?_
          refine zw_C zr_0_493 (Or.inl rfl) zm_168 rfl rfl ⟨Nat.le_of_ble_eq_true rfl, Nat.le_of_ble_eq_true rfl, Nat.le_of_ble_eq_true rfl, rfl, by decide⟩ (by omega) (th_168 (d := d - 1) (by omega) hIm122 (a0 := x119) (a1 := x120) (a2 := x121)      (by omega) (by omega) (by omega) ) ?_
          rintro _ m124 ⟨r125, rfl, hr125a, hr125b, hIm124, gm124⟩
          have hFm124 : zFr W_0 m0 m124 := hFm122.trans gm124 rfl
          show zW E (d) 0 496 [(6, 0), (2, 0), (2, 69), (0, i2)] [(0, r125)] m124 Q
          have hkz126_0 := zk_fr hv0lp18_4 gm122
          have hkz126_1 := zk_fr hkz126_0 gm124
          refine zw_115 zr_0_496 rfl ?_
          refine zw_42 zr_0_497 ?_
          refine zw_15 (c := 6) (L' := [(6, 0), (2, 0), (2, 69), (0, (i2 + 6))]) zr_0_1238 rfl (by decide) (by omega) rfl ?_
          refine zw_42 zr_0_1241 ?_
          exact zw_less (L := [(6, 0), (2, 0), (2, 69), (0, (i2 + 6))]) ⟨Or.inr rfl, Or.inr rfl, Or.inr rfl, Or.inr rfl, trivial⟩ (ihlp18_4 ((i2 + 6)) m124 hIm124 hFm124   (by omega) (by omega) (by assumption) (by omega))
        by_cases h128 : x9 = 8
        · refine zw_111 (t := 500) zr_0_33 (by rw [h128]; rfl) ?_
          refine zw_7 zr_0_500 rfl ?_
          refine zw_7s zr_0_501 rfl ?_
          refine zw_3 zr_0_502 rfl ?_
          refine zw_push zr_0_503 ?_
          refine zw_16 zr_0_504 (by omega) ?_
          refine zw_100 zr_0_505 rfl (by omega) (by omega) ?_
          intro x129 ex129 hx129a hx129b
          refine zw_7s zr_0_506 rfl ?_
          refine zw_3 zr_0_507 rfl ?_
          refine zw_push zr_0_508 ?_
          refine zw_16 zr_0_509 (by omega) ?_
          refine zw_100 zr_0_510 rfl (by omega) (by omega) ?_
          intro x130 ex130 hx130a hx130b
          refine zw_C zr_0_511 (Or.inl rfl) zm_110 rfl rfl ⟨Nat.le_of_ble_eq_true rfl, Nat.le_of_ble_eq_true rfl, Nat.le_of_ble_eq_true rfl, rfl, by decide⟩ (by omega) (th_110 (d := d - 1) (by omega) hIm3 (a0 := x129) (a1 := x130)      (by omega) (by omega) ) ?_
          rintro _ m131 ⟨r132, rfl, hr132a, hr132b, hIm131, gm131⟩
          have hFm131 : zFr W_0 m0 m131 := hFm3.trans gm131 rfl
          show zW E (d) 0 514 [(6, 0), (2, 0), (2, 69), (0, i2)] [(0, r132)] m131 Q
          refine zw_115 zr_0_514 rfl ?_
          refine zw_7 zr_0_515 rfl ?_
          refine zw_7s zr_0_516 rfl ?_
          refine zw_3 zr_0_517 rfl ?_
          refine zw_push zr_0_518 ?_
          refine zw_16 zr_0_519 (by omega) ?_
          refine zw_100k zr_0_520 rfl (by omega) (by omega) ex129.symm ?_
          refine zw_7s zr_0_521 rfl ?_
          refine zw_3 zr_0_522 rfl ?_
          refine zw_push zr_0_523 ?_
          refine zw_16 zr_0_524 (by omega) ?_
          refine zw_100k zr_0_525 rfl (by omega) (by omega) ex130.symm ?_
          refine zw_C zr_0_526 (Or.inl rfl) zm_170 rfl rfl ⟨Nat.le_of_ble_eq_true rfl, Nat.le_of_ble_eq_true rfl, Nat.le_of_ble_eq_true rfl, rfl, by decide⟩ (by omega) (th_170 (d := d - 1) (by omega) hIm131 (a0 := x129) (a1 := x130)      (by omega) (by omega) ) ?_
          rintro _ m133 ⟨r134, rfl, hr134a, hr134b, hIm133, gm133⟩
          have hFm133 : zFr W_0 m0 m133 := hFm131.trans gm133 rfl
          show zW E (d) 0 529 [(6, 0), (2, 0), (2, 69), (0, i2)] [(0, r134)] m133 Q
          have hkz135_0 := zk_fr hv0lp18_4 gm131
          have hkz135_1 := zk_fr hkz135_0 gm133
          refine zw_115 zr_0_529 rfl ?_
          refine zw_42 zr_0_530 ?_
          refine zw_15 (c := 6) (L' := [(6, 0), (2, 0), (2, 69), (0, (i2 + 6))]) zr_0_1238 rfl (by decide) (by omega) rfl ?_
          refine zw_42 zr_0_1241 ?_
          exact zw_less (L := [(6, 0), (2, 0), (2, 69), (0, (i2 + 6))]) ⟨Or.inr rfl, Or.inr rfl, Or.inr rfl, Or.inr rfl, trivial⟩ (ihlp18_4 ((i2 + 6)) m133 hIm133 hFm133   (by omega) (by omega) (by assumption) (by omega))
        by_cases h137 : x9 = 9
        · refine zw_111 (t := 533) zr_0_33 (by rw [h137]; rfl) ?_
          refine zw_7 zr_0_533 rfl ?_
          refine zw_7s zr_0_534 rfl ?_
          refine zw_3 zr_0_535 rfl ?_
          refine zw_push zr_0_536 ?_
          refine zw_16 zr_0_537 (by omega) ?_
          refine zw_100 zr_0_538 rfl (by omega) (by omega) ?_
          intro x138 ex138 hx138a hx138b
          refine zw_7s zr_0_539 rfl ?_
          refine zw_3 zr_0_540 rfl ?_
          refine zw_push zr_0_541 ?_
          refine zw_16 zr_0_542 (by omega) ?_
          refine zw_100 zr_0_543 rfl (by omega) (by omega) ?_
          intro x139 ex139 hx139a hx139b
          refine zw_7s zr_0_544 rfl ?_
          refine zw_3 zr_0_545 rfl ?_
          refine zw_push zr_0_546 ?_
          refine zw_16 zr_0_547 (by omega) ?_
          refine zw_100 zr_0_548 rfl (by omega) (by omega) ?_
          intro x140 ex140 hx140a hx140b
          refine zw_C zr_0_549 (Or.inl rfl) zm_111 rfl rfl ⟨Nat.le_of_ble_eq_true rfl, Nat.le_of_ble_eq_true rfl, Nat.le_of_ble_eq_true rfl, rfl, by decide⟩ (by omega) (th_111 (d := d - 1) (by omega) hIm3 (a0 := x138) (a1 := x139) (a2 := x140)      (by omega) (by omega) (by omega) ) ?_
          rintro _ m141 ⟨r142, rfl, hr142a, hr142b, hIm141, gm141⟩
          have hFm141 : zFr W_0 m0 m141 := hFm3.trans gm141 rfl
          show zW E (d) 0 552 [(6, 0), (2, 0), (2, 69), (0, i2)] [(0, r142)] m141 Q
          refine zw_115 zr_0_552 rfl ?_
          refine zw_7 zr_0_553 rfl ?_
          refine zw_7s zr_0_554 rfl ?_
          refine zw_3 zr_0_555 rfl ?_
          refine zw_push zr_0_556 ?_
          refine zw_16 zr_0_557 (by omega) ?_
          refine zw_100k zr_0_558 rfl (by omega) (by omega) ex138.symm ?_
          refine zw_7s zr_0_559 rfl ?_
          refine zw_3 zr_0_560 rfl ?_
          refine zw_push zr_0_561 ?_
          refine zw_16 zr_0_562 (by omega) ?_
          refine zw_100k zr_0_563 rfl (by omega) (by omega) ex139.symm ?_
          refine zw_7s zr_0_564 rfl ?_
          refine zw_3 zr_0_565 rfl ?_
          refine zw_push zr_0_566 ?_
          refine zw_16 zr_0_567 (by omega) ?_
          refine zw_100k zr_0_568 rfl (by omega) (by omega) ex140.symm ?_
          refine zw_C zr_0_569 (Or.inl rfl) zm_174 rfl rfl ⟨Nat.le_of_ble_eq_true rfl, Nat.le_of_ble_eq_true rfl, Nat.le_of_ble_eq_true rfl, rfl, by decide⟩ (by omega) (th_174 (d := d - 1) (by omega) hIm141 (a0 := x138) (a1 := x139) (a2 := x140)      (by omega) (by omega) (by omega) ) ?_
          rintro _ m143 ⟨r144, rfl, hr144a, hr144b, hIm143, gm143⟩
          have hFm143 : zFr W_0 m0 m143 := hFm141.trans gm143 rfl
          show zW E (d) 0 572 [(6, 0), (2, 0), (2, 69), (0, i2)] [(0, r144)] m143 Q
          have hkz145_0 := zk_fr hv0lp18_4 gm141
          have hkz145_1 := zk_fr hkz145_0 gm143
          refine zw_115 zr_0_572 rfl ?_
          refine zw_42 zr_0_573 ?_
          refine zw_15 (c := 6) (L' := [(6, 0), (2, 0), (2, 69), (0, (i2 + 6))]) zr_0_1238 rfl (by decide) (by omega) rfl ?_
          refine zw_42 zr_0_1241 ?_
          exact zw_less (L := [(6, 0), (2, 0), (2, 69), (0, (i2 + 6))]) ⟨Or.inr rfl, Or.inr rfl, Or.inr rfl, Or.inr rfl, trivial⟩ (ihlp18_4 ((i2 + 6)) m143 hIm143 hFm143   (by omega) (by omega) (by assumption) (by omega))
        by_cases h147 : x9 = 10
        · refine zw_111 (t := 576) zr_0_33 (by rw [h147]; rfl) ?_
          refine zw_7 zr_0_576 rfl ?_
          refine zw_7s zr_0_577 rfl ?_
          refine zw_3 zr_0_578 rfl ?_
          refine zw_push zr_0_579 ?_
          refine zw_16 zr_0_580 (by omega) ?_
          refine zw_100 zr_0_581 rfl (by omega) (by omega) ?_
          intro x148 ex148 hx148a hx148b
          refine zw_7s zr_0_582 rfl ?_
          refine zw_3 zr_0_583 rfl ?_
          refine zw_push zr_0_584 ?_
          refine zw_16 zr_0_585 (by omega) ?_
          refine zw_100 zr_0_586 rfl (by omega) (by omega) ?_
          intro x149 ex149 hx149a hx149b
          refine zw_7s zr_0_587 rfl ?_
          refine zw_3 zr_0_588 rfl ?_
          refine zw_push zr_0_589 ?_
          refine zw_16 zr_0_590 (by omega) ?_
          refine zw_100 zr_0_591 rfl (by omega) (by omega) ?_
          intro x150 ex150 hx150a hx150b
          refine zw_C zr_0_592 (Or.inl rfl) zm_112 rfl rfl ⟨Nat.le_of_ble_eq_true rfl, Nat.le_of_ble_eq_true rfl, Nat.le_of_ble_eq_true rfl, rfl, by decide⟩ (by omega) (th_112 (d := d - 1) (by omega) hIm3 (a0 := x148) (a1 := x149) (a2 := x150)      (by omega) (by omega) (by omega) ) ?_
          rintro _ m151 ⟨r152, rfl, hr152a, hr152b, hIm151, gm151⟩
          have hFm151 : zFr W_0 m0 m151 := hFm3.trans gm151 rfl
          show zW E (d) 0 595 [(6, 0), (2, 0), (2, 69), (0, i2)] [(0, r152)] m151 Q
          refine zw_115 zr_0_595 rfl ?_
          refine zw_7 zr_0_596 rfl ?_
          refine zw_7s zr_0_597 rfl ?_
          refine zw_3 zr_0_598 rfl ?_
          refine zw_push zr_0_599 ?_
          refine zw_16 zr_0_600 (by omega) ?_
          refine zw_100k zr_0_601 rfl (by omega) (by omega) ex148.symm ?_
          refine zw_7s zr_0_602 rfl ?_
          refine zw_3 zr_0_603 rfl ?_
          refine zw_push zr_0_604 ?_
          refine zw_16 zr_0_605 (by omega) ?_
          refine zw_100k zr_0_606 rfl (by omega) (by omega) ex149.symm ?_
          refine zw_7s zr_0_607 rfl ?_
          refine zw_3 zr_0_608 rfl ?_
          refine zw_push zr_0_609 ?_
          refine zw_16 zr_0_610 (by omega) ?_
          refine zw_100k zr_0_611 rfl (by omega) (by omega) ex150.symm ?_
          refine zw_C zr_0_612 (Or.inl rfl) zm_175 rfl rfl ⟨Nat.le_of_ble_eq_true rfl, Nat.le_of_ble_eq_true rfl, Nat.le_of_ble_eq_true rfl, rfl, by decide⟩ (by omega) (th_175 (d := d - 1) (by omega) hIm151 (a0 := x148) (a1 := x149) (a2 := x150)      (by omega) (by omega) (by omega) ) ?_
          rintro _ m153 ⟨r154, rfl, hr154a, hr154b, hIm153, gm153⟩
          have hFm153 : zFr W_0 m0 m153 := hFm151.trans gm153 rfl
          show zW E (d) 0 615 [(6, 0), (2, 0), (2, 69), (0, i2)] [(0, r154)] m153 Q
          have hkz155_0 := zk_fr hv0lp18_4 gm151
          have hkz155_1 := zk_fr hkz155_0 gm153
          refine zw_115 zr_0_615 rfl ?_
          refine zw_42 zr_0_616 ?_
          refine zw_15 (c := 6) (L' := [(6, 0), (2, 0), (2, 69), (0, (i2 + 6))]) zr_0_1238 rfl (by decide) (by omega) rfl ?_
          refine zw_42 zr_0_1241 ?_
          exact zw_less (L := [(6, 0), (2, 0), (2, 69), (0, (i2 + 6))]) ⟨Or.inr rfl, Or.inr rfl, Or.inr rfl, Or.inr rfl, trivial⟩ (ihlp18_4 ((i2 + 6)) m153 hIm153 hFm153   (by omega) (by omega) (by assumption) (by omega))
        by_cases h157 : x9 = 11
        · refine zw_111 (t := 619) zr_0_33 (by rw [h157]; rfl) ?_
          refine zw_7 zr_0_619 rfl ?_
          refine zw_7s zr_0_620 rfl ?_
          refine zw_3 zr_0_621 rfl ?_
          refine zw_push zr_0_622 ?_
          refine zw_16 zr_0_623 (by omega) ?_
          refine zw_100 zr_0_624 rfl (by omega) (by omega) ?_
          intro x158 ex158 hx158a hx158b
          refine zw_C zr_0_625 (Or.inl rfl) zm_113 rfl rfl ⟨Nat.le_of_ble_eq_true rfl, Nat.le_of_ble_eq_true rfl, Nat.le_of_ble_eq_true rfl, rfl, by decide⟩ (by omega) (th_113 (d := d - 1) (by omega) hIm3 (a0 := x158)      (by omega) ) ?_
          rintro _ m159 ⟨r160, rfl, hr160a, hr160b, hIm159, gm159⟩
          have hFm159 : zFr W_0 m0 m159 := hFm3.trans gm159 rfl
          show zW E (d) 0 628 [(6, 0), (2, 0), (2, 69), (0, i2)] [(0, r160)] m159 Q
          refine zw_115 zr_0_628 rfl ?_
          refine zw_7 zr_0_629 rfl ?_
          refine zw_7s zr_0_630 rfl ?_
          refine zw_3 zr_0_631 rfl ?_
          refine zw_push zr_0_632 ?_
          refine zw_16 zr_0_633 (by omega) ?_
          refine zw_100k zr_0_634 rfl (by omega) (by omega) ex158.symm ?_
          refine zw_C zr_0_635 (Or.inl rfl) zm_177 rfl rfl ⟨Nat.le_of_ble_eq_true rfl, Nat.le_of_ble_eq_true rfl, Nat.le_of_ble_eq_true rfl, rfl, by decide⟩ (by omega) (th_177 (d := d - 1) (by omega) hIm159 (a0 := x158)      (by omega) ) ?_
          rintro _ m161 ⟨r162, rfl, hr162a, hr162b, hIm161, gm161⟩
          have hFm161 : zFr W_0 m0 m161 := hFm159.trans gm161 rfl
          show zW E (d) 0 638 [(6, 0), (2, 0), (2, 69), (0, i2)] [(0, r162)] m161 Q
          have hkz163_0 := zk_fr hv0lp18_4 gm159
          have hkz163_1 := zk_fr hkz163_0 gm161
          refine zw_115 zr_0_638 rfl ?_
          refine zw_42 zr_0_639 ?_
          refine zw_15 (c := 6) (L' := [(6, 0), (2, 0), (2, 69), (0, (i2 + 6))]) zr_0_1238 rfl (by decide) (by omega) rfl ?_
          refine zw_42 zr_0_1241 ?_
          exact zw_less (L := [(6, 0), (2, 0), (2, 69), (0, (i2 + 6))]) ⟨Or.inr rfl, Or.inr rfl, Or.inr rfl, Or.inr rfl, trivial⟩ (ihlp18_4 ((i2 + 6)) m161 hIm161 hFm161   (by omega) (by omega) (by assumption) (by omega))
        by_cases h165 : x9 = 12
        · refine zw_111 (t := 642) zr_0_33 (by rw [h165]; rfl) ?_
          refine zw_7 zr_0_642 rfl ?_
          refine zw_C zr_0_643 (Or.inl rfl) zm_114 rfl rfl ⟨Nat.le_of_ble_eq_true rfl, Nat.le_of_ble_eq_true rfl, Nat.le_of_ble_eq_true rfl, rfl, by decide⟩ (by omega) (th_114 (d := d - 1) (by omega) hIm3        ) ?_
          rintro _ m166 ⟨r167, rfl, hr167a, hr167b, hIm166, gm166⟩
          have hFm166 : zFr W_0 m0 m166 := hFm3.trans gm166 rfl
          show zW E (d) 0 646 [(6, 0), (2, 0), (2, 69), (0, i2)] [(0, r167)] m166 Q
          refine zw_115 zr_0_646 rfl ?_
          refine zw_7 zr_0_647 rfl ?_
          refine zw_C zr_0_648 (Or.inl rfl) zm_178 rfl rfl ⟨Nat.le_of_ble_eq_true rfl, Nat.le_of_ble_eq_true rfl, Nat.le_of_ble_eq_true rfl, rfl, by decide⟩ (by omega) (th_178 (d := d - 1) (by omega) hIm166        ) ?_
          rintro _ m168 ⟨r169, rfl, hr169a, hr169b, hIm168, gm168⟩
          have hFm168 : zFr W_0 m0 m168 := hFm166.trans gm168 rfl
          show zW E (d) 0 651 [(6, 0), (2, 0), (2, 69), (0, i2)] [(0, r169)] m168 Q
          have hkz170_0 := zk_fr hv0lp18_4 gm166
          have hkz170_1 := zk_fr hkz170_0 gm168
          refine zw_115 zr_0_651 rfl ?_
          refine zw_42 zr_0_652 ?_
          refine zw_15 (c := 6) (L' := [(6, 0), (2, 0), (2, 69), (0, (i2 + 6))]) zr_0_1238 rfl (by decide) (by omega) rfl ?_
          refine zw_42 zr_0_1241 ?_
          exact zw_less (L := [(6, 0), (2, 0), (2, 69), (0, (i2 + 6))]) ⟨Or.inr rfl, Or.inr rfl, Or.inr rfl, Or.inr rfl, trivial⟩ (ihlp18_4 ((i2 + 6)) m168 hIm168 hFm168   (by omega) (by omega) (by assumption) (by omega))
        by_cases h172 : x9 = 13
        · refine zw_111 (t := 655) zr_0_33 (by rw [h172]; rfl) ?_
          refine zw_7 zr_0_655 rfl ?_
          refine zw_7s zr_0_656 rfl ?_
          refine zw_3 zr_0_657 rfl ?_
          refine zw_push zr_0_658 ?_
          refine zw_16 zr_0_659 (by omega) ?_
          refine zw_100 zr_0_660 rfl (by omega) (by omega) ?_
          intro x173 ex173 hx173a hx173b
          refine zw_7s zr_0_661 rfl ?_
          refine zw_3 zr_0_662 rfl ?_
          refine zw_push zr_0_663 ?_
          refine zw_16 zr_0_664 (by omega) ?_
          refine zw_100 zr_0_665 rfl (by omega) (by omega) ?_
          intro x174 ex174 hx174a hx174b
          refine zw_C zr_0_666 (Or.inl rfl) zm_115 rfl rfl ⟨Nat.le_of_ble_eq_true rfl, Nat.le_of_ble_eq_true rfl, Nat.le_of_ble_eq_true rfl, rfl, by decide⟩ (by omega) (th_115 (d := d - 1) (by omega) hIm3 (a0 := x173) (a1 := x174)   (F12 := m3 12)  rfl (by omega) (by omega) ) ?_
          rintro _ m175 ⟨r176, rfl, hr176a, hr176b, hIm175, gm175, po0_r176, po1_r176⟩
          have hFm175 : zFr W_0 m0 m175 := hFm3.trans gm175 rfl
          show zW E (d) 0 669 [(6, 0), (2, 0), (2, 69), (0, i2)] [(0, r176)] m175 Q
          refine zw_115 zr_0_669 rfl ?_
          refine zw_7 zr_0_670 rfl ?_
          refine zw_7s zr_0_671 rfl ?_
          refine zw_3 zr_0_672 rfl ?_
          refine zw_push zr_0_673 ?_
          refine zw_16 zr_0_674 (by omega) ?_
          refine zw_100k zr_0_675 rfl (by omega) (by omega) ex173.symm ?_
          refine zw_7s zr_0_676 rfl ?_
          refine zw_3 zr_0_677 rfl ?_
          refine zw_push zr_0_678 ?_
          refine zw_16 zr_0_679 (by omega) ?_
          refine zw_100k zr_0_680 rfl (by omega) (by omega) ex174.symm ?_
          refine zw_C zr_0_681 (Or.inl rfl) zm_179 rfl rfl ⟨Nat.le_of_ble_eq_true rfl, Nat.le_of_ble_eq_true rfl, Nat.le_of_ble_eq_true rfl, rfl, by decide⟩ (by omega) (th_179 (d := d - 1) (by omega) hIm175 (a0 := x173) (a1 := x174)   (F70 := m175 70)  rfl (by omega) (by omega) ) ?_
          rintro _ m177 ⟨r178, rfl, hr178a, hr178b, hIm177, gm177, po0_r178, po1_r178⟩
          have hFm177 : zFr W_0 m0 m177 := hFm175.trans gm177 rfl
          show zW E (d) 0 684 [(6, 0), (2, 0), (2, 69), (0, i2)] [(0, r178)] m177 Q
          obtain ⟨hkz179, hrz179⟩ := zk_shape hIm3 hv0lp18_4 gm175 po0_r176 po1_r176 gm177 po0_r178 po1_r178
          refine zw_115 zr_0_684 rfl ?_
          refine zw_42 zr_0_685 ?_
          refine zw_15 (c := 6) (L' := [(6, 0), (2, 0), (2, 69), (0, (i2 + 6))]) zr_0_1238 rfl (by decide) (by omega) rfl ?_
          refine zw_42 zr_0_1241 ?_
          exact zw_less (L := [(6, 0), (2, 0), (2, 69), (0, (i2 + 6))]) ⟨Or.inr rfl, Or.inr rfl, Or.inr rfl, Or.inr rfl, trivial⟩ (ihlp18_4 ((i2 + 6)) m177 hIm177 hFm177   (by omega) (by omega) (by assumption) (by omega))
        by_cases h181 : x9 = 14
        · refine zw_111 (t := 688) zr_0_33 (by rw [h181]; rfl) ?_
          refine zw_7 zr_0_688 rfl ?_
          refine zw_7s zr_0_689 rfl ?_
          refine zw_3 zr_0_690 rfl ?_
          refine zw_push zr_0_691 ?_
          refine zw_16 zr_0_692 (by omega) ?_
          refine zw_100 zr_0_693 rfl (by omega) (by omega) ?_
          intro x182 ex182 hx182a hx182b
          refine zw_7s zr_0_694 rfl ?_
          refine zw_3 zr_0_695 rfl ?_
          refine zw_push zr_0_696 ?_
          refine zw_16 zr_0_697 (by omega) ?_
          refine zw_100 zr_0_698 rfl (by omega) (by omega) ?_
          intro x183 ex183 hx183a hx183b
          obtain ⟨f184, ef184⟩ : ∃ v, m3 1 4 = v := ⟨_, rfl⟩
          have bf184 := ib_1_4 hIm3
          rw [ef184] at bf184
          obtain ⟨f185, ef185⟩ : ∃ v, m3 1 5 = v := ⟨_, rfl⟩
          have bf185 := ib_1_5 hIm3
          rw [ef185] at bf185
          refine zw_C zr_0_699 (Or.inl rfl) zm_116 rfl rfl ⟨Nat.le_of_ble_eq_true rfl, Nat.le_of_ble_eq_true rfl, Nat.le_of_ble_eq_true rfl, rfl, by decide⟩ (by omega) (th_116 (d := d - 1) (by omega) hIm3 (a0 := x182) (a1 := x183) (g0 := f184) (g1 := f185)   ef184 ef185  (by omega) (by omega) ) ?_
          rintro _ m186 ⟨r187, rfl, hr187a, hr187b, hIm186, gm186, po0_r187, po1_r187⟩
          have hFm186 : zFr W_0 m0 m186 := hFm3.trans gm186 rfl
          show zW E (d) 0 702 [(6, 0), (2, 0), (2, 69), (0, i2)] [(0, r187)] m186 Q
          refine zw_115 zr_0_702 rfl ?_
          refine zw_7 zr_0_703 rfl ?_
          refine zw_7s zr_0_704 rfl ?_
          refine zw_3 zr_0_705 rfl ?_
          refine zw_push zr_0_706 ?_
          refine zw_16 zr_0_707 (by omega) ?_
          refine zw_100k zr_0_708 rfl (by omega) (by omega) ex182.symm ?_
          refine zw_7s zr_0_709 rfl ?_
          refine zw_3 zr_0_710 rfl ?_
          refine zw_push zr_0_711 ?_
          refine zw_16 zr_0_712 (by omega) ?_
          refine zw_100k zr_0_713 rfl (by omega) (by omega) ex183.symm ?_
          refine zw_C zr_0_714 (Or.inl rfl) zm_180 rfl rfl ⟨Nat.le_of_ble_eq_true rfl, Nat.le_of_ble_eq_true rfl, Nat.le_of_ble_eq_true rfl, rfl, by decide⟩ (by omega) (th_180 (d := d - 1) (by omega) hIm186 (a0 := x182) (a1 := x183)   (F70 := m186 70)  rfl (by omega) (by omega) ) ?_
          rintro _ m188 ⟨r189, rfl, hr189a, hr189b, hIm188, gm188, po0_r189, po1_r189⟩
          have hFm188 : zFr W_0 m0 m188 := hFm186.trans gm188 rfl
          show zW E (d) 0 717 [(6, 0), (2, 0), (2, 69), (0, i2)] [(0, r189)] m188 Q
          obtain ⟨hkz190, hrz190⟩ := zk_wide hIm3 hv0lp18_4 gm186 ef184 ef185 po0_r187 po1_r187 gm188 po0_r189 po1_r189
          refine zw_115 zr_0_717 rfl ?_
          refine zw_42 zr_0_718 ?_
          refine zw_15 (c := 6) (L' := [(6, 0), (2, 0), (2, 69), (0, (i2 + 6))]) zr_0_1238 rfl (by decide) (by omega) rfl ?_
          refine zw_42 zr_0_1241 ?_
          exact zw_less (L := [(6, 0), (2, 0), (2, 69), (0, (i2 + 6))]) ⟨Or.inr rfl, Or.inr rfl, Or.inr rfl, Or.inr rfl, trivial⟩ (ihlp18_4 ((i2 + 6)) m188 hIm188 hFm188   (by omega) (by omega) (by assumption) (by omega))
        by_cases h192 : x9 = 15
        · refine zw_111 (t := 721) zr_0_33 (by rw [h192]; rfl) ?_
          refine zw_7 zr_0_721 rfl ?_
          refine zw_C zr_0_722 (Or.inl rfl) zm_117 rfl rfl ⟨Nat.le_of_ble_eq_true rfl, Nat.le_of_ble_eq_true rfl, Nat.le_of_ble_eq_true rfl, rfl, by decide⟩ (by omega) (th_117 (d := d - 1) (by omega) hIm3        ) ?_
          rintro _ m193 ⟨r194, rfl, hr194a, hr194b, hIm193, gm193⟩
          have hFm193 : zFr W_0 m0 m193 := hFm3.trans gm193 rfl
          show zW E (d) 0 725 [(6, 0), (2, 0), (2, 69), (0, i2)] [(0, r194)] m193 Q
          refine zw_115 zr_0_725 rfl ?_
          refine zw_7 zr_0_726 rfl ?_
          refine zw_C zr_0_727 (Or.inl rfl) zm_185 rfl rfl ⟨Nat.le_of_ble_eq_true rfl, Nat.le_of_ble_eq_true rfl, Nat.le_of_ble_eq_true rfl, rfl, by decide⟩ (by omega) (th_185 (d := d - 1) (by omega) hIm193        ) ?_
          rintro _ m195 ⟨r196, rfl, hr196a, hr196b, hIm195, gm195⟩
          have hFm195 : zFr W_0 m0 m195 := hFm193.trans gm195 rfl
          show zW E (d) 0 730 [(6, 0), (2, 0), (2, 69), (0, i2)] [(0, r196)] m195 Q
          have hkz197_0 := zk_fr hv0lp18_4 gm193
          have hkz197_1 := zk_fr hkz197_0 gm195
          refine zw_115 zr_0_730 rfl ?_
          refine zw_42 zr_0_731 ?_
          refine zw_15 (c := 6) (L' := [(6, 0), (2, 0), (2, 69), (0, (i2 + 6))]) zr_0_1238 rfl (by decide) (by omega) rfl ?_
          refine zw_42 zr_0_1241 ?_
          exact zw_less (L := [(6, 0), (2, 0), (2, 69), (0, (i2 + 6))]) ⟨Or.inr rfl, Or.inr rfl, Or.inr rfl, Or.inr rfl, trivial⟩ (ihlp18_4 ((i2 + 6)) m195 hIm195 hFm195   (by omega) (by omega) (by assumption) (by omega))
        by_cases h199 : x9 = 16
        · refine zw_111 (t := 734) zr_0_33 (by rw [h199]; rfl) ?_
          refine zw_7 zr_0_734 rfl ?_
          refine zw_7s zr_0_735 rfl ?_
          refine zw_3 zr_0_736 rfl ?_
          refine zw_push zr_0_737 ?_
          refine zw_16 zr_0_738 (by omega) ?_
          refine zw_100 zr_0_739 rfl (by omega) (by omega) ?_
          intro x200 ex200 hx200a hx200b
          refine zw_7s zr_0_740 rfl ?_
          refine zw_3 zr_0_741 rfl ?_
          refine zw_push zr_0_742 ?_
          refine zw_16 zr_0_743 (by omega) ?_
          refine zw_100 zr_0_744 rfl (by omega) (by omega) ?_
          intro x201 ex201 hx201a hx201b
          refine zw_7s zr_0_745 rfl ?_
          refine zw_3 zr_0_746 rfl ?_
          refine zw_push zr_0_747 ?_
          refine zw_16 zr_0_748 (by omega) ?_
          refine zw_100 zr_0_749 rfl (by omega) (by omega) ?_
          intro x202 ex202 hx202a hx202b
          refine zw_C zr_0_750 (Or.inl rfl) zm_118 rfl rfl ⟨Nat.le_of_ble_eq_true rfl, Nat.le_of_ble_eq_true rfl, Nat.le_of_ble_eq_true rfl, rfl, by decide⟩ (by omega) (th_118 (d := d - 1) (by omega) hIm3 (a0 := x200) (a1 := x201) (a2 := x202)      (by omega) (by omega) (by omega) ) ?_
          rintro _ m203 ⟨r204, rfl, hr204a, hr204b, hIm203, gm203⟩
          have hFm203 : zFr W_0 m0 m203 := hFm3.trans gm203 rfl
          show zW E (d) 0 753 [(6, 0), (2, 0), (2, 69), (0, i2)] [(0, r204)] m203 Q
          refine zw_115 zr_0_753 rfl ?_
          refine zw_7 zr_0_754 rfl ?_
          refine zw_7s zr_0_755 rfl ?_
          refine zw_3 zr_0_756 rfl ?_
          refine zw_push zr_0_757 ?_
          refine zw_16 zr_0_758 (by omega) ?_
          refine zw_100k zr_0_759 rfl (by omega) (by omega) ex200.symm ?_
          refine zw_7s zr_0_760 rfl ?_
          refine zw_3 zr_0_761 rfl ?_
          refine zw_push zr_0_762 ?_
          refine zw_16 zr_0_763 (by omega) ?_
          refine zw_100k zr_0_764 rfl (by omega) (by omega) ex201.symm ?_
          refine zw_7s zr_0_765 rfl ?_
          refine zw_3 zr_0_766 rfl ?_
          refine zw_push zr_0_767 ?_
          refine zw_16 zr_0_768 (by omega) ?_
          refine zw_100k zr_0_769 rfl (by omega) (by omega) ex202.symm ?_
          refine zw_C zr_0_770 (Or.inl rfl) zm_186 rfl rfl ⟨Nat.le_of_ble_eq_true rfl, Nat.le_of_ble_eq_true rfl, Nat.le_of_ble_eq_true rfl, rfl, by decide⟩ (by omega) (th_186 (d := d - 1) (by omega) hIm203 (a0 := x200) (a1 := x201) (a2 := x202)      (by omega) (by omega) (by omega) ) ?_
          rintro _ m205 ⟨r206, rfl, hr206a, hr206b, hIm205, gm205⟩
          have hFm205 : zFr W_0 m0 m205 := hFm203.trans gm205 rfl
          show zW E (d) 0 773 [(6, 0), (2, 0), (2, 69), (0, i2)] [(0, r206)] m205 Q
          have hkz207_0 := zk_fr hv0lp18_4 gm203
          have hkz207_1 := zk_fr hkz207_0 gm205
          refine zw_115 zr_0_773 rfl ?_
          refine zw_42 zr_0_774 ?_
          refine zw_15 (c := 6) (L' := [(6, 0), (2, 0), (2, 69), (0, (i2 + 6))]) zr_0_1238 rfl (by decide) (by omega) rfl ?_
          refine zw_42 zr_0_1241 ?_
          exact zw_less (L := [(6, 0), (2, 0), (2, 69), (0, (i2 + 6))]) ⟨Or.inr rfl, Or.inr rfl, Or.inr rfl, Or.inr rfl, trivial⟩ (ihlp18_4 ((i2 + 6)) m205 hIm205 hFm205   (by omega) (by omega) (by assumption) (by omega))
        by_cases h209 : x9 = 17
        · refine zw_111 (t := 777) zr_0_33 (by rw [h209]; rfl) ?_
          refine zw_7 zr_0_777 rfl ?_
          refine zw_C zr_0_778 (Or.inl rfl) zm_119 rfl rfl ⟨Nat.le_of_ble_eq_true rfl, Nat.le_of_ble_eq_true rfl, Nat.le_of_ble_eq_true rfl, rfl, by decide⟩ (by omega) (th_119 (d := d - 1) (by omega) hIm3        ) ?_
          rintro _ m210 ⟨r211, rfl, hr211a, hr211b, hIm210, gm210⟩
          have hFm210 : zFr W_0 m0 m210 := hFm3.trans gm210 rfl
          show zW E (d) 0 781 [(6, 0), (2, 0), (2, 69), (0, i2)] [(1, r211)] m210 Q
          refine zw_116 zr_0_781 rfl ?_
          refine zw_7 zr_0_782 rfl ?_
          refine zw_C zr_0_783 (Or.inl rfl) zm_187 rfl rfl ⟨Nat.le_of_ble_eq_true rfl, Nat.le_of_ble_eq_true rfl, Nat.le_of_ble_eq_true rfl, rfl, by decide⟩ (by omega) (th_187 (d := d - 1) (by omega) hIm210        ) ?_
          rintro _ m212 ⟨r213, rfl, hr213a, hr213b, hIm212, gm212⟩
          have hFm212 : zFr W_0 m0 m212 := hFm210.trans gm212 rfl
          show zW E (d) 0 786 [(6, 0), (2, 0), (2, 69), (0, i2)] [(1, r213)] m212 Q
          have hkz214_0 := zk_fr hv0lp18_4 gm210
          have hkz214_1 := zk_fr hkz214_0 gm212
          refine zw_116 zr_0_786 rfl ?_
          refine zw_42 zr_0_787 ?_
          refine zw_15 (c := 6) (L' := [(6, 0), (2, 0), (2, 69), (0, (i2 + 6))]) zr_0_1238 rfl (by decide) (by omega) rfl ?_
          refine zw_42 zr_0_1241 ?_
          exact zw_less (L := [(6, 0), (2, 0), (2, 69), (0, (i2 + 6))]) ⟨Or.inr rfl, Or.inr rfl, Or.inr rfl, Or.inr rfl, trivial⟩ (ihlp18_4 ((i2 + 6)) m212 hIm212 hFm212   (by omega) (by omega) (by assumption) (by omega))
        by_cases h216 : x9 = 18
        · refine zw_111 (t := 790) zr_0_33 (by rw [h216]; rfl) ?_
          refine zw_7 zr_0_790 rfl ?_
          refine zw_7s zr_0_791 rfl ?_
          refine zw_3 zr_0_792 rfl ?_
          refine zw_push zr_0_793 ?_
          refine zw_16 zr_0_794 (by omega) ?_
          refine zw_100 zr_0_795 rfl (by omega) (by omega) ?_
          intro x217 ex217 hx217a hx217b
          obtain ⟨f218, ef218⟩ : ∃ v, m3 1 0 = v := ⟨_, rfl⟩
          have bf218 := ib_1_0 hIm3
          rw [ef218] at bf218
          obtain ⟨f219, ef219⟩ : ∃ v, m3 1 1 = v := ⟨_, rfl⟩
          have bf219 := ib_1_1 hIm3
          rw [ef219] at bf219
          obtain ⟨f220, ef220⟩ : ∃ v, m3 1 2 = v := ⟨_, rfl⟩
          have bf220 := ib_1_2 hIm3
          rw [ef220] at bf220
          obtain ⟨f221, ef221⟩ : ∃ v, m3 1 3 = v := ⟨_, rfl⟩
          have bf221 := ib_1_3 hIm3
          rw [ef221] at bf221
          refine zw_C zr_0_796 (Or.inl rfl) zm_120 rfl rfl ⟨Nat.le_of_ble_eq_true rfl, Nat.le_of_ble_eq_true rfl, Nat.le_of_ble_eq_true rfl, rfl, by decide⟩ (by omega) (th_120 (d := d - 1) (by omega) hIm3 (a0 := x217) (g0 := f218) (g1 := f219) (g2 := f220) (g3 := f221)  (F6 := m3 6) (F7 := m3 7) ef218 ef219 ef220 ef221 rfl rfl (by omega) ) ?_
          rintro _ m222 ⟨r223, rfl, hr223a, hr223b, hIm222, gm222, po0_r223⟩
          have hFm222 : zFr W_0 m0 m222 := hFm3.trans gm222 rfl
          have km222_1_0 : m222 1 0 = f218 := (gm222 1 0 rfl).trans ef218
          have km222_1_1 : m222 1 1 = f219 := (gm222 1 1 rfl).trans ef219
          have km222_1_2 : m222 1 2 = f220 := (gm222 1 2 rfl).trans ef220
          have km222_1_3 : m222 1 3 = f221 := (gm222 1 3 rfl).trans ef221
          show zW E (d) 0 799 [(6, 0), (2, 0), (2, 69), (0, i2)] [(0, r223)] m222 Q
          refine zw_115 zr_0_799 rfl ?_
          refine zw_7 zr_0_800 rfl ?_
          refine zw_7s zr_0_801 rfl ?_
          refine zw_3 zr_0_802 rfl ?_
          refine zw_push zr_0_803 ?_
          refine zw_16 zr_0_804 (by omega) ?_
          refine zw_100k zr_0_805 rfl (by omega) (by omega) ex217.symm ?_
          obtain ⟨f224, ef224⟩ : ∃ v, m222 70 822 = v := ⟨_, rfl⟩
          have bf224 : 0 ≤ m222 70 822 ∧ m222 70 822 ≤ 10 := ib_70_players hIm222 (by omega)
          rw [ef224] at bf224
          obtain ⟨f225, ef225⟩ : ∃ v, m222 70 823 = v := ⟨_, rfl⟩
          have bf225 : 0 ≤ m222 70 823 ∧ m222 70 823 ≤ 60 := ib_70_meetings hIm222 (by omega)
          rw [ef225] at bf225
          refine zw_C zr_0_806 (Or.inl rfl) zm_190 rfl rfl ⟨Nat.le_of_ble_eq_true rfl, Nat.le_of_ble_eq_true rfl, Nat.le_of_ble_eq_true rfl, rfl, by decide⟩ (by omega) (th_190 (d := d - 1) (by omega) hIm222 (a0 := x217) (g0 := f224) (g1 := f225)  (F70 := m222 70) ef224 ef225 rfl (by omega) ) ?_
          rintro _ m226 ⟨r227, rfl, hr227a, hr227b, hIm226, gm226, po0_r227⟩
          have hFm226 : zFr W_0 m0 m226 := hFm222.trans gm226 rfl
          have km226_1_0 : m226 1 0 = f218 := (gm226 1 0 rfl).trans km222_1_0
          have km226_1_1 : m226 1 1 = f219 := (gm226 1 1 rfl).trans km222_1_1
          have km226_1_2 : m226 1 2 = f220 := (gm226 1 2 rfl).trans km222_1_2
          have km226_1_3 : m226 1 3 = f221 := (gm226 1 3 rfl).trans km222_1_3
          have km226_70_822 : m226 70 822 = f224 := (gm226 70 822 rfl).trans ef224
          have km226_70_823 : m226 70 823 = f225 := (gm226 70 823 rfl).trans ef225
          show zW E (d) 0 809 [(6, 0), (2, 0), (2, 69), (0, i2)] [(0, r227)] m226 Q
          have hkz228_0 := zk_fr hv0lp18_4 gm222
          have hkz228_1 := zk_fr hkz228_0 gm226
          have hqz229 := zq_island hIm3 hv0lp18_4 gm222 ef218 ef219 ef220 ef221 po0_r223 ef224 ef225 po0_r227
          refine zw_115 zr_0_809 rfl ?_
          refine zw_42 zr_0_810 ?_
          refine zw_15 (c := 6) (L' := [(6, 0), (2, 0), (2, 69), (0, (i2 + 6))]) zr_0_1238 rfl (by decide) (by omega) rfl ?_
          refine zw_42 zr_0_1241 ?_
          exact zw_less (L := [(6, 0), (2, 0), (2, 69), (0, (i2 + 6))]) ⟨Or.inr rfl, Or.inr rfl, Or.inr rfl, Or.inr rfl, trivial⟩ (ihlp18_4 ((i2 + 6)) m226 hIm226 hFm226   (by omega) (by omega) (by assumption) (by omega))
        by_cases h231 : x9 = 19
        · refine zw_111 (t := 813) zr_0_33 (by rw [h231]; rfl) ?_
          refine zw_7 zr_0_813 rfl ?_
          refine zw_7s zr_0_814 rfl ?_
          refine zw_3 zr_0_815 rfl ?_
          refine zw_push zr_0_816 ?_
          refine zw_16 zr_0_817 (by omega) ?_
          refine zw_100 zr_0_818 rfl (by omega) (by omega) ?_
          intro x232 ex232 hx232a hx232b
          refine zw_7s zr_0_819 rfl ?_
          refine zw_3 zr_0_820 rfl ?_
          refine zw_push zr_0_821 ?_
          refine zw_16 zr_0_822 (by omega) ?_
          refine zw_100 zr_0_823 rfl (by omega) (by omega) ?_
          intro x233 ex233 hx233a hx233b
          refine zw_7s zr_0_824 rfl ?_
          refine zw_3 zr_0_825 rfl ?_
          refine zw_push zr_0_826 ?_
          refine zw_16 zr_0_827 (by omega) ?_
          refine zw_100 zr_0_828 rfl (by omega) (by omega) ?_
          intro x234 ex234 hx234a hx234b
          obtain ⟨f235, ef235⟩ : ∃ v, m3 1 0 = v := ⟨_, rfl⟩
          have bf235 := ib_1_0 hIm3
          rw [ef235] at bf235
          obtain ⟨f236, ef236⟩ : ∃ v, m3 1 1 = v := ⟨_, rfl⟩
          have bf236 := ib_1_1 hIm3
          rw [ef236] at bf236
          obtain ⟨f237, ef237⟩ : ∃ v, m3 1 2 = v := ⟨_, rfl⟩
          have bf237 := ib_1_2 hIm3
          rw [ef237] at bf237
          obtain ⟨f238, ef238⟩ : ∃ v, m3 1 3 = v := ⟨_, rfl⟩
          have bf238 := ib_1_3 hIm3
          rw [ef238] at bf238
          refine zw_C zr_0_829 (Or.inl rfl) zm_121 rfl rfl ⟨Nat.le_of_ble_eq_true rfl, Nat.le_of_ble_eq_true rfl, Nat.le_of_ble_eq_true rfl, rfl, by decide⟩ (by omega) (th_121 (d := d - 1) (by omega) hIm3 (a0 := x232) (a1 := x233) (a2 := x234) (g0 := f235) (g1 := f236) (g2 := f237) (g3 := f238)  (F6 := m3 6) (F7 := m3 7) (F61 := m3 61) (F62 := m3 62) ef235 ef236 ef237 ef238 rfl rfl rfl rfl (by omega) (by omega) (by omega) (qK_pl hv0lp18_4 ef236 ef235)) ?_
          rintro _ m240 ⟨r241, rfl, hr241a, hr241b, hIm240, gm240, po0_r241⟩
          have hFm240 : zFr W_0 m0 m240 := hFm3.trans gm240 rfl
          have km240_1_0 : m240 1 0 = f235 := (gm240 1 0 rfl).trans ef235
          have km240_1_1 : m240 1 1 = f236 := (gm240 1 1 rfl).trans ef236
          have km240_1_2 : m240 1 2 = f237 := (gm240 1 2 rfl).trans ef237
          have km240_1_3 : m240 1 3 = f238 := (gm240 1 3 rfl).trans ef238
          show zW E (d) 0 832 [(6, 0), (2, 0), (2, 69), (0, i2)] [(0, r241)] m240 Q
          refine zw_115 zr_0_832 rfl ?_
          refine zw_7 zr_0_833 rfl ?_
          refine zw_7s zr_0_834 rfl ?_
          refine zw_3 zr_0_835 rfl ?_
          refine zw_push zr_0_836 ?_
          refine zw_16 zr_0_837 (by omega) ?_
          refine zw_100k zr_0_838 rfl (by omega) (by omega) ex232.symm ?_
          refine zw_7s zr_0_839 rfl ?_
          refine zw_3 zr_0_840 rfl ?_
          refine zw_push zr_0_841 ?_
          refine zw_16 zr_0_842 (by omega) ?_
          refine zw_100k zr_0_843 rfl (by omega) (by omega) ex233.symm ?_
          refine zw_7s zr_0_844 rfl ?_
          refine zw_3 zr_0_845 rfl ?_
          refine zw_push zr_0_846 ?_
          refine zw_16 zr_0_847 (by omega) ?_
          refine zw_100k zr_0_848 rfl (by omega) (by omega) ex234.symm ?_
          obtain ⟨f242, ef242⟩ : ∃ v, m240 70 822 = v := ⟨_, rfl⟩
          have bf242 : 0 ≤ m240 70 822 ∧ m240 70 822 ≤ 10 := ib_70_players hIm240 (by omega)
          rw [ef242] at bf242
          obtain ⟨f243, ef243⟩ : ∃ v, m240 70 823 = v := ⟨_, rfl⟩
          have bf243 : 0 ≤ m240 70 823 ∧ m240 70 823 ≤ 60 := ib_70_meetings hIm240 (by omega)
          rw [ef243] at bf243
          refine zw_C zr_0_849 (Or.inl rfl) zm_191 rfl rfl ⟨Nat.le_of_ble_eq_true rfl, Nat.le_of_ble_eq_true rfl, Nat.le_of_ble_eq_true rfl, rfl, by decide⟩ (by omega) (th_191 (d := d - 1) (by omega) hIm240 (a0 := x232) (a1 := x233) (a2 := x234) (g0 := f242) (g1 := f243)  (F70 := m240 70) (F81 := m240 81) ef242 ef243 rfl rfl (by omega) (by omega) (by omega) ) ?_
          rintro _ m244 ⟨r245, rfl, hr245a, hr245b, hIm244, gm244, po0_r245⟩
          have hFm244 : zFr W_0 m0 m244 := hFm240.trans gm244 rfl
          have km244_1_0 : m244 1 0 = f235 := (gm244 1 0 rfl).trans km240_1_0
          have km244_1_1 : m244 1 1 = f236 := (gm244 1 1 rfl).trans km240_1_1
          have km244_1_2 : m244 1 2 = f237 := (gm244 1 2 rfl).trans km240_1_2
          have km244_1_3 : m244 1 3 = f238 := (gm244 1 3 rfl).trans km240_1_3
          have km244_70_822 : m244 70 822 = f242 := (gm244 70 822 rfl).trans ef242
          have km244_70_823 : m244 70 823 = f243 := (gm244 70 823 rfl).trans ef243
          show zW E (d) 0 852 [(6, 0), (2, 0), (2, 69), (0, i2)] [(0, r245)] m244 Q
          have hkz246_0 := zk_fr hv0lp18_4 gm240
          have hkz246_1 := zk_fr hkz246_0 gm244
          have hqz247 := zq_rope hIm3 hv0lp18_4 gm240 ef235 ef236 ef237 ef238 po0_r241 ef242 ef243 po0_r245
          refine zw_115 zr_0_852 rfl ?_
          refine zw_42 zr_0_853 ?_
          refine zw_15 (c := 6) (L' := [(6, 0), (2, 0), (2, 69), (0, (i2 + 6))]) zr_0_1238 rfl (by decide) (by omega) rfl ?_
          refine zw_42 zr_0_1241 ?_
          exact zw_less (L := [(6, 0), (2, 0), (2, 69), (0, (i2 + 6))]) ⟨Or.inr rfl, Or.inr rfl, Or.inr rfl, Or.inr rfl, trivial⟩ (ihlp18_4 ((i2 + 6)) m244 hIm244 hFm244   (by omega) (by omega) (by assumption) (by omega))
        by_cases h249 : x9 = 20
        · refine zw_111 (t := 856) zr_0_33 (by rw [h249]; rfl) ?_
          refine zw_7 zr_0_856 rfl ?_
          obtain ⟨f250, ef250⟩ : ∃ v, m3 1 0 = v := ⟨_, rfl⟩
          have bf250 := ib_1_0 hIm3
          rw [ef250] at bf250
          obtain ⟨f251, ef251⟩ : ∃ v, m3 1 1 = v := ⟨_, rfl⟩
          have bf251 := ib_1_1 hIm3
          rw [ef251] at bf251
          obtain ⟨f252, ef252⟩ : ∃ v, m3 1 2 = v := ⟨_, rfl⟩
          have bf252 := ib_1_2 hIm3
          rw [ef252] at bf252
          obtain ⟨f253, ef253⟩ : ∃ v, m3 1 3 = v := ⟨_, rfl⟩
          have bf253 := ib_1_3 hIm3
          rw [ef253] at bf253
          refine zw_C zr_0_857 (Or.inl rfl) zm_122 rfl rfl ⟨Nat.le_of_ble_eq_true rfl, Nat.le_of_ble_eq_true rfl, Nat.le_of_ble_eq_true rfl, rfl, by decide⟩ (by omega) (th_122 (d := d - 1) (by omega) hIm3  (g0 := f250) (g1 := f251) (g2 := f252) (g3 := f253)  (F6 := m3 6) (F7 := m3 7) ef250 ef251 ef252 ef253 rfl rfl  (qK_pl hv0lp18_4 ef251 ef250)) ?_
          rintro _ m255 ⟨r256, rfl, hr256a, hr256b, hIm255, gm255, po0_r256, po1_r256⟩
          have hFm255 : zFr W_0 m0 m255 := hFm3.trans gm255 rfl
          have km255_1_0 : m255 1 0 = f250 := (gm255 1 0 rfl).trans ef250
          have km255_1_1 : m255 1 1 = f251 := (gm255 1 1 rfl).trans ef251
          have km255_1_2 : m255 1 2 = f252 := (gm255 1 2 rfl).trans ef252
          have km255_1_3 : m255 1 3 = f253 := (gm255 1 3 rfl).trans ef253
          show zW E (d) 0 860 [(6, 0), (2, 0), (2, 69), (0, i2)] [(1, r256)] m255 Q
          refine zw_116 zr_0_860 rfl ?_
          refine zw_7 zr_0_861 rfl ?_
          obtain ⟨f257, ef257⟩ : ∃ v, m255 70 823 = v := ⟨_, rfl⟩
          have bf257 : 0 ≤ m255 70 823 ∧ m255 70 823 ≤ 60 := ib_70_meetings hIm255 (by omega)
          rw [ef257] at bf257
          refine zw_C zr_0_862 (Or.inl rfl) zm_192 rfl rfl ⟨Nat.le_of_ble_eq_true rfl, Nat.le_of_ble_eq_true rfl, Nat.le_of_ble_eq_true rfl, rfl, by decide⟩ (by omega) (th_192 (d := d - 1) (by omega) hIm255  (g0 := f257)  (F70 := m255 70) (F81 := m255 81) ef257 rfl rfl  ) ?_
          rintro _ m258 ⟨r259, rfl, hr259a, hr259b, hIm258, gm258, po0_r259, po1_r259⟩
          have hFm258 : zFr W_0 m0 m258 := hFm255.trans gm258 rfl
          have km258_1_0 : m258 1 0 = f250 := (gm258 1 0 rfl).trans km255_1_0
          have km258_1_1 : m258 1 1 = f251 := (gm258 1 1 rfl).trans km255_1_1
          have km258_1_2 : m258 1 2 = f252 := (gm258 1 2 rfl).trans km255_1_2
          have km258_1_3 : m258 1 3 = f253 := (gm258 1 3 rfl).trans km255_1_3
          have km258_70_823 : m258 70 823 = f257 := (gm258 70 823 rfl).trans ef257
          show zW E (d) 0 865 [(6, 0), (2, 0), (2, 69), (0, i2)] [(1, r259)] m258 Q
          have hkz260_0 := zk_fr hv0lp18_4 gm255
          have hkz260_1 := zk_fr hkz260_0 gm258
          have hqz261 := zq_bridges hIm3 hv0lp18_4 gm255 ef250 ef251 ef252 ef253 po0_r256 po1_r256 ef257 po0_r259 po1_r259
          refine zw_116 zr_0_865 rfl ?_
          refine zw_42 zr_0_866 ?_
          refine zw_15 (c := 6) (L' := [(6, 0), (2, 0), (2, 69), (0, (i2 + 6))]) zr_0_1238 rfl (by decide) (by omega) rfl ?_
          refine zw_42 zr_0_1241 ?_
          exact zw_less (L := [(6, 0), (2, 0), (2, 69), (0, (i2 + 6))]) ⟨Or.inr rfl, Or.inr rfl, Or.inr rfl, Or.inr rfl, trivial⟩ (ihlp18_4 ((i2 + 6)) m258 hIm258 hFm258   (by omega) (by omega) (by assumption) (by omega))
        by_cases h263 : x9 = 21
        · refine zw_111 (t := 869) zr_0_33 (by rw [h263]; rfl) ?_
          refine zw_7 zr_0_869 rfl ?_
          refine zw_7s zr_0_870 rfl ?_
          refine zw_3 zr_0_871 rfl ?_
          refine zw_push zr_0_872 ?_
          refine zw_16 zr_0_873 (by omega) ?_
          refine zw_100 zr_0_874 rfl (by omega) (by omega) ?_
          intro x264 ex264 hx264a hx264b
          refine zw_7s zr_0_875 rfl ?_
          refine zw_3 zr_0_876 rfl ?_
          refine zw_push zr_0_877 ?_
          refine zw_16 zr_0_878 (by omega) ?_
          refine zw_100 zr_0_879 rfl (by omega) (by omega) ?_
          intro x265 ex265 hx265a hx265b
          refine zw_7s zr_0_880 rfl ?_
          refine zw_3 zr_0_881 rfl ?_
          refine zw_push zr_0_882 ?_
          refine zw_16 zr_0_883 (by omega) ?_
          refine zw_100 zr_0_884 rfl (by omega) (by omega) ?_
          intro x266 ex266 hx266a hx266b
          refine zw_C zr_0_885 (Or.inl rfl) zm_123 rfl rfl ⟨Nat.le_of_ble_eq_true rfl, Nat.le_of_ble_eq_true rfl, Nat.le_of_ble_eq_true rfl, rfl, by decide⟩ (by omega) (th_123 (d := d - 1) (by omega) hIm3 (a0 := x264) (a1 := x265) (a2 := x266)      (by omega) (by omega) (by omega) ) ?_
          rintro _ m267 ⟨r268, rfl, hr268a, hr268b, hIm267, gm267⟩
          have hFm267 : zFr W_0 m0 m267 := hFm3.trans gm267 rfl
          show zW E (d) 0 888 [(6, 0), (2, 0), (2, 69), (0, i2)] [(0, r268)] m267 Q
          refine zw_115 zr_0_888 rfl ?_
          refine zw_7 zr_0_889 rfl ?_
          refine zw_7s zr_0_890 rfl ?_
          refine zw_3 zr_0_891 rfl ?_
          refine zw_push zr_0_892 ?_
          refine zw_16 zr_0_893 (by omega) ?_
          refine zw_100k zr_0_894 rfl (by omega) (by omega) ex264.symm ?_
          refine zw_7s zr_0_895 rfl ?_
          refine zw_3 zr_0_896 rfl ?_
          refine zw_push zr_0_897 ?_
          refine zw_16 zr_0_898 (by omega) ?_
          refine zw_100k zr_0_899 rfl (by omega) (by omega) ex265.symm ?_
          refine zw_7s zr_0_900 rfl ?_
          refine zw_3 zr_0_901 rfl ?_
          refine zw_push zr_0_902 ?_
          refine zw_16 zr_0_903 (by omega) ?_
          refine zw_100k zr_0_904 rfl (by omega) (by omega) ex266.symm ?_
          refine zw_C zr_0_905 (Or.inl rfl) zm_196 rfl rfl ⟨Nat.le_of_ble_eq_true rfl, Nat.le_of_ble_eq_true rfl, Nat.le_of_ble_eq_true rfl, rfl, by decide⟩ (by omega) (th_196 (d := d - 1) (by omega) hIm267 (a0 := x264) (a1 := x265) (a2 := x266)      (by omega) (by omega) (by omega) ) ?_
          rintro _ m269 ⟨r270, rfl, hr270a, hr270b, hIm269, gm269⟩
          have hFm269 : zFr W_0 m0 m269 := hFm267.trans gm269 rfl
          show zW E (d) 0 908 [(6, 0), (2, 0), (2, 69), (0, i2)] [(0, r270)] m269 Q
          have hkz271_0 := zk_fr hv0lp18_4 gm267
          have hkz271_1 := zk_fr hkz271_0 gm269
          refine zw_115 zr_0_908 rfl ?_
          refine zw_42 zr_0_909 ?_
          refine zw_15 (c := 6) (L' := [(6, 0), (2, 0), (2, 69), (0, (i2 + 6))]) zr_0_1238 rfl (by decide) (by omega) rfl ?_
          refine zw_42 zr_0_1241 ?_
          exact zw_less (L := [(6, 0), (2, 0), (2, 69), (0, (i2 + 6))]) ⟨Or.inr rfl, Or.inr rfl, Or.inr rfl, Or.inr rfl, trivial⟩ (ihlp18_4 ((i2 + 6)) m269 hIm269 hFm269   (by omega) (by omega) (by assumption) (by omega))
        by_cases h273 : x9 = 22
        · refine zw_111 (t := 912) zr_0_33 (by rw [h273]; rfl) ?_
          refine zw_7 zr_0_912 rfl ?_
          obtain ⟨f274, ef274⟩ : ∃ v, m3 1 0 = v := ⟨_, rfl⟩
          have bf274 := ib_1_0 hIm3
          rw [ef274] at bf274
          obtain ⟨f275, ef275⟩ : ∃ v, m3 1 1 = v := ⟨_, rfl⟩
          have bf275 := ib_1_1 hIm3
          rw [ef275] at bf275
          obtain ⟨f276, ef276⟩ : ∃ v, m3 1 2 = v := ⟨_, rfl⟩
          have bf276 := ib_1_2 hIm3
          rw [ef276] at bf276
          refine zw_C zr_0_913 (Or.inl rfl) zm_124 rfl rfl ⟨Nat.le_of_ble_eq_true rfl, Nat.le_of_ble_eq_true rfl, Nat.le_of_ble_eq_true rfl, rfl, by decide⟩ (by omega) (th_124 (d := d - 1) (by omega) hIm3  (g0 := f274) (g1 := f275) (g2 := f276)  (F6 := m3 6) (F7 := m3 7) (F8 := m3 8) ef274 ef275 ef276 rfl rfl rfl  ) ?_
          rintro _ m277 ⟨r278, rfl, hr278a, hr278b, hIm277, gm277, po0_r278⟩
          have hFm277 : zFr W_0 m0 m277 := hFm3.trans gm277 rfl
          have km277_1_0 : m277 1 0 = f274 := (gm277 1 0 rfl).trans ef274
          have km277_1_1 : m277 1 1 = f275 := (gm277 1 1 rfl).trans ef275
          have km277_1_2 : m277 1 2 = f276 := (gm277 1 2 rfl).trans ef276
          show zW E (d) 0 916 [(6, 0), (2, 0), (2, 69), (0, i2)] [(0, r278)] m277 Q
          refine zw_115 zr_0_916 rfl ?_
          refine zw_7 zr_0_917 rfl ?_
          obtain ⟨f279, ef279⟩ : ∃ v, m277 70 822 = v := ⟨_, rfl⟩
          have bf279 : 0 ≤ m277 70 822 ∧ m277 70 822 ≤ 10 := ib_70_players hIm277 (by omega)
          rw [ef279] at bf279
          refine zw_C zr_0_918 (Or.inl rfl) zm_198 rfl rfl ⟨Nat.le_of_ble_eq_true rfl, Nat.le_of_ble_eq_true rfl, Nat.le_of_ble_eq_true rfl, rfl, by decide⟩ (by omega) (th_198 (d := d - 1) (by omega) hIm277  (g0 := f279)  (F70 := m277 70) ef279 rfl  ) ?_
          rintro _ _ ⟨r280, rfl, hr280a, hr280b, rfl, po0_r280⟩
          show zW E (d) 0 921 [(6, 0), (2, 0), (2, 69), (0, i2)] [(0, r280)] m277 Q
          have hkz281_0 := zk_fr hv0lp18_4 gm277
          have hqz282 := zq_rounds hIm3 hv0lp18_4 gm277 ef274 ef275 ef276 po0_r278 ef279 po0_r280
          refine zw_115 zr_0_921 rfl ?_
          refine zw_42 zr_0_922 ?_
          refine zw_15 (c := 6) (L' := [(6, 0), (2, 0), (2, 69), (0, (i2 + 6))]) zr_0_1238 rfl (by decide) (by omega) rfl ?_
          refine zw_42 zr_0_1241 ?_
          exact zw_less (L := [(6, 0), (2, 0), (2, 69), (0, (i2 + 6))]) ⟨Or.inr rfl, Or.inr rfl, Or.inr rfl, Or.inr rfl, trivial⟩ (ihlp18_4 ((i2 + 6)) m277 hIm277 hFm277   (by omega) (by omega) (by assumption) (by omega))
        by_cases h284 : x9 = 23
        · refine zw_111 (t := 925) zr_0_33 (by rw [h284]; rfl) ?_
          refine zw_7 zr_0_925 rfl ?_
          refine zw_7s zr_0_926 rfl ?_
          refine zw_3 zr_0_927 rfl ?_
          refine zw_push zr_0_928 ?_
          refine zw_16 zr_0_929 (by omega) ?_
          refine zw_100 zr_0_930 rfl (by omega) (by omega) ?_
          intro x285 ex285 hx285a hx285b
          obtain ⟨f286, ef286⟩ : ∃ v, m3 1 0 = v := ⟨_, rfl⟩
          have bf286 := ib_1_0 hIm3
          rw [ef286] at bf286
          obtain ⟨f287, ef287⟩ : ∃ v, m3 1 1 = v := ⟨_, rfl⟩
          have bf287 := ib_1_1 hIm3
          rw [ef287] at bf287
          obtain ⟨f288, ef288⟩ : ∃ v, m3 1 2 = v := ⟨_, rfl⟩
          have bf288 := ib_1_2 hIm3
          rw [ef288] at bf288
          refine zw_C zr_0_931 (Or.inl rfl) zm_125 rfl rfl ⟨Nat.le_of_ble_eq_true rfl, Nat.le_of_ble_eq_true rfl, Nat.le_of_ble_eq_true rfl, rfl, by decide⟩ (by omega) (th_125 (d := d - 1) (by omega) hIm3 (a0 := x285) (g0 := f286) (g1 := f287) (g2 := f288)  (F6 := m3 6) (F7 := m3 7) (F8 := m3 8) (F64 := m3 64) ef286 ef287 ef288 rfl rfl rfl rfl (by omega) ) ?_
          rintro _ m289 ⟨r290, rfl, hr290a, hr290b, hIm289, gm289, po0_r290⟩
          have hFm289 : zFr W_0 m0 m289 := hFm3.trans gm289 rfl
          have km289_1_0 : m289 1 0 = f286 := (gm289 1 0 rfl).trans ef286
          have km289_1_1 : m289 1 1 = f287 := (gm289 1 1 rfl).trans ef287
          have km289_1_2 : m289 1 2 = f288 := (gm289 1 2 rfl).trans ef288
          show zW E (d) 0 934 [(6, 0), (2, 0), (2, 69), (0, i2)] [(0, r290)] m289 Q
          refine zw_7 zr_0_934 rfl ?_
          refine zw_7s zr_0_935 rfl ?_
          refine zw_3 zr_0_936 rfl ?_
          refine zw_push zr_0_937 ?_
          refine zw_16 zr_0_938 (by omega) ?_
          refine zw_100k zr_0_939 rfl (by omega) (by omega) ex285.symm ?_
          obtain ⟨f291, ef291⟩ : ∃ v, m289 70 822 = v := ⟨_, rfl⟩
          have bf291 : 0 ≤ m289 70 822 ∧ m289 70 822 ≤ 10 := ib_70_players hIm289 (by omega)
          rw [ef291] at bf291
          obtain ⟨f292, ef292⟩ : ∃ v, m289 70 823 = v := ⟨_, rfl⟩
          have bf292 : 0 ≤ m289 70 823 ∧ m289 70 823 ≤ 60 := ib_70_meetings hIm289 (by omega)
          rw [ef292] at bf292
          refine zw_C zr_0_940 (Or.inl rfl) zm_199 rfl rfl ⟨Nat.le_of_ble_eq_true rfl, Nat.le_of_ble_eq_true rfl, Nat.le_of_ble_eq_true rfl, rfl, by decide⟩ (by omega) (th_199 (d := d - 1) (by omega) hIm289 (a0 := x285) (g0 := f291) (g1 := f292)  (F70 := m289 70) (F83 := m289 83) (F84 := m289 84) ef291 ef292 rfl rfl rfl (by omega) ) ?_
          rintro _ m293 ⟨r294, rfl, hr294a, hr294b, hIm293, gm293, po0_r294⟩
          have hFm293 : zFr W_0 m0 m293 := hFm289.trans gm293 rfl
          have km293_1_0 : m293 1 0 = f286 := (gm293 1 0 rfl).trans km289_1_0
          have km293_1_1 : m293 1 1 = f287 := (gm293 1 1 rfl).trans km289_1_1
          have km293_1_2 : m293 1 2 = f288 := (gm293 1 2 rfl).trans km289_1_2
          have km293_70_822 : m293 70 822 = f291 := (gm293 70 822 rfl).trans ef291
          have km293_70_823 : m293 70 823 = f292 := (gm293 70 823 rfl).trans ef292
          show zW E (d) 0 943 [(6, 0), (2, 0), (2, 69), (0, i2)] [(0, r294), (0, r290)] m293 Q
          have hkz295_0 := zk_fr hv0lp18_4 gm289
          have hkz295_1 := zk_fr hkz295_0 gm293
          have hqz296 := zq_ways hIm3 hv0lp18_4 gm289 ef286 ef287 ef288 po0_r290 ef291 ef292 po0_r294
          refine zw_41_1 zr_0_943 ?_ ?_
          · intro h297
            refine zw_15 (c := 6) (L' := [(6, 0), (2, 0), (2, 69), (0, (i2 + 6))]) zr_0_1238 rfl (by decide) (by omega) rfl ?_
            refine zw_42 zr_0_1241 ?_
            exact zw_less (L := [(6, 0), (2, 0), (2, 69), (0, (i2 + 6))]) ⟨Or.inr rfl, Or.inr rfl, Or.inr rfl, Or.inr rfl, trivial⟩ (ihlp18_4 ((i2 + 6)) m293 hIm293 hFm293   (by omega) (by omega) (by assumption) (by omega))
          · intro h299
            refine zw_push zr_0_946 ?_
            refine zw_R zr_0_947 (by decide) zm_0 (v := (0, 0)) (zRetB (by omega)) ?_
            rw [← hQ]; exact ⟨_, rfl, by omega, by omega, hIm293, hFm293⟩
        by_cases h300 : x9 = 24
        · refine zw_111 (t := 948) zr_0_33 (by rw [h300]; rfl) ?_
          refine zw_7 zr_0_948 rfl ?_
          refine zw_7s zr_0_949 rfl ?_
          refine zw_3 zr_0_950 rfl ?_
          refine zw_push zr_0_951 ?_
          refine zw_16 zr_0_952 (by omega) ?_
          refine zw_100 zr_0_953 rfl (by omega) (by omega) ?_
          intro x301 ex301 hx301a hx301b
          refine zw_7s zr_0_954 rfl ?_
          refine zw_3 zr_0_955 rfl ?_
          refine zw_push zr_0_956 ?_
          refine zw_16 zr_0_957 (by omega) ?_
          refine zw_100 zr_0_958 rfl (by omega) (by omega) ?_
          intro x302 ex302 hx302a hx302b
          refine zw_7s zr_0_959 rfl ?_
          refine zw_3 zr_0_960 rfl ?_
          refine zw_push zr_0_961 ?_
          refine zw_16 zr_0_962 (by omega) ?_
          refine zw_100 zr_0_963 rfl (by omega) (by omega) ?_
          intro x303 ex303 hx303a hx303b
          refine zw_7s zr_0_964 rfl ?_
          refine zw_3 zr_0_965 rfl ?_
          refine zw_push zr_0_966 ?_
          refine zw_16 zr_0_967 (by omega) ?_
          refine zw_100 zr_0_968 rfl (by omega) (by omega) ?_
          intro x304 ex304 hx304a hx304b
          obtain ⟨f305, ef305⟩ : ∃ v, m3 1 0 = v := ⟨_, rfl⟩
          have bf305 := ib_1_0 hIm3
          rw [ef305] at bf305
          refine zw_C zr_0_969 (Or.inl rfl) zm_126 rfl rfl ⟨Nat.le_of_ble_eq_true rfl, Nat.le_of_ble_eq_true rfl, Nat.le_of_ble_eq_true rfl, rfl, by decide⟩ (by omega) (th_126 (d := d - 1) (by omega) hIm3 (a0 := x301) (a1 := x302) (a2 := x303) (a3 := x304) (g0 := f305)  (F6 := m3 6) (F7 := m3 7) ef305 rfl rfl (by omega) (by omega) (by omega) (by omega) ) ?_
          rintro _ m306 ⟨r307, rfl, hr307a, hr307b, hIm306, gm306, po0_r307⟩
          have hFm306 : zFr W_0 m0 m306 := hFm3.trans gm306 rfl
          have km306_1_0 : m306 1 0 = f305 := (gm306 1 0 rfl).trans ef305
          show zW E (d) 0 972 [(6, 0), (2, 0), (2, 69), (0, i2)] [(0, r307)] m306 Q
          refine zw_115 zr_0_972 rfl ?_
          refine zw_7 zr_0_973 rfl ?_
          refine zw_7s zr_0_974 rfl ?_
          refine zw_3 zr_0_975 rfl ?_
          refine zw_push zr_0_976 ?_
          refine zw_16 zr_0_977 (by omega) ?_
          refine zw_100k zr_0_978 rfl (by omega) (by omega) ex301.symm ?_
          refine zw_7s zr_0_979 rfl ?_
          refine zw_3 zr_0_980 rfl ?_
          refine zw_push zr_0_981 ?_
          refine zw_16 zr_0_982 (by omega) ?_
          refine zw_100k zr_0_983 rfl (by omega) (by omega) ex302.symm ?_
          refine zw_7s zr_0_984 rfl ?_
          refine zw_3 zr_0_985 rfl ?_
          refine zw_push zr_0_986 ?_
          refine zw_16 zr_0_987 (by omega) ?_
          refine zw_100k zr_0_988 rfl (by omega) (by omega) ex303.symm ?_
          refine zw_7s zr_0_989 rfl ?_
          refine zw_3 zr_0_990 rfl ?_
          refine zw_push zr_0_991 ?_
          refine zw_16 zr_0_992 (by omega) ?_
          refine zw_100k zr_0_993 rfl (by omega) (by omega) ex304.symm ?_
          obtain ⟨f308, ef308⟩ : ∃ v, m306 70 822 = v := ⟨_, rfl⟩
          have bf308 : 0 ≤ m306 70 822 ∧ m306 70 822 ≤ 10 := ib_70_players hIm306 (by omega)
          rw [ef308] at bf308
          refine zw_C zr_0_994 (Or.inl rfl) zm_202 rfl rfl ⟨Nat.le_of_ble_eq_true rfl, Nat.le_of_ble_eq_true rfl, Nat.le_of_ble_eq_true rfl, rfl, by decide⟩ (by omega) (th_202 (d := d - 1) (by omega) hIm306 (a0 := x301) (a1 := x302) (a2 := x303) (a3 := x304) (g0 := f308)  (F70 := m306 70) ef308 rfl (by omega) (by omega) (by omega) (by omega) ) ?_
          rintro _ m309 ⟨r310, rfl, hr310a, hr310b, hIm309, gm309, po0_r310⟩
          have hFm309 : zFr W_0 m0 m309 := hFm306.trans gm309 rfl
          have km309_1_0 : m309 1 0 = f305 := (gm309 1 0 rfl).trans km306_1_0
          have km309_70_822 : m309 70 822 = f308 := (gm309 70 822 rfl).trans ef308
          show zW E (d) 0 997 [(6, 0), (2, 0), (2, 69), (0, i2)] [(0, r310)] m309 Q
          have hkz311_0 := zk_fr hv0lp18_4 gm306
          have hkz311_1 := zk_fr hkz311_0 gm309
          have hqz312 := zq_even hIm3 hv0lp18_4 gm306 ef305 po0_r307 ef308 po0_r310
          refine zw_115 zr_0_997 rfl ?_
          refine zw_42 zr_0_998 ?_
          refine zw_15 (c := 6) (L' := [(6, 0), (2, 0), (2, 69), (0, (i2 + 6))]) zr_0_1238 rfl (by decide) (by omega) rfl ?_
          refine zw_42 zr_0_1241 ?_
          exact zw_less (L := [(6, 0), (2, 0), (2, 69), (0, (i2 + 6))]) ⟨Or.inr rfl, Or.inr rfl, Or.inr rfl, Or.inr rfl, trivial⟩ (ihlp18_4 ((i2 + 6)) m309 hIm309 hFm309   (by omega) (by omega) (by assumption) (by omega))
        by_cases h314 : x9 = 25
        · refine zw_111 (t := 1001) zr_0_33 (by rw [h314]; rfl) ?_
          refine zw_7 zr_0_1001 rfl ?_
          refine zw_C zr_0_1002 (Or.inl rfl) zm_127 rfl rfl ⟨Nat.le_of_ble_eq_true rfl, Nat.le_of_ble_eq_true rfl, Nat.le_of_ble_eq_true rfl, rfl, by decide⟩ (by omega) (th_127 (d := d - 1) (by omega) hIm3        ) ?_
          rintro _ _ ⟨r315, rfl, hr315a, hr315b, rfl⟩
          show zW E (d) 0 1005 [(6, 0), (2, 0), (2, 69), (0, i2)] [(0, r315)] m3 Q
          refine zw_115 zr_0_1005 rfl ?_
          refine zw_7 zr_0_1006 rfl ?_
          refine zw_C zr_0_1007 (Or.inl rfl) zm_203 rfl rfl ⟨Nat.le_of_ble_eq_true rfl, Nat.le_of_ble_eq_true rfl, Nat.le_of_ble_eq_true rfl, rfl, by decide⟩ (by omega) (th_203 (d := d - 1) (by omega) hIm3        ) ?_
          rintro _ _ ⟨r316, rfl, hr316a, hr316b, rfl⟩
          show zW E (d) 0 1010 [(6, 0), (2, 0), (2, 69), (0, i2)] [(0, r316)] m3 Q
          refine zw_115 zr_0_1010 rfl ?_
          refine zw_42 zr_0_1011 ?_
          refine zw_15 (c := 6) (L' := [(6, 0), (2, 0), (2, 69), (0, (i2 + 6))]) zr_0_1238 rfl (by decide) (by omega) rfl ?_
          refine zw_42 zr_0_1241 ?_
          exact zw_less (L := [(6, 0), (2, 0), (2, 69), (0, (i2 + 6))]) ⟨Or.inr rfl, Or.inr rfl, Or.inr rfl, Or.inr rfl, trivial⟩ (ihlp18_4 ((i2 + 6)) m3 hIm3 hFm3   (by omega) (by omega) (by assumption) (by omega))
        by_cases h319 : x9 = 26
        · refine zw_111 (t := 1014) zr_0_33 (by rw [h319]; rfl) ?_
          refine zw_7 zr_0_1014 rfl ?_
          refine zw_7s zr_0_1015 rfl ?_
          refine zw_3 zr_0_1016 rfl ?_
          refine zw_push zr_0_1017 ?_
          refine zw_16 zr_0_1018 (by omega) ?_
          refine zw_100 zr_0_1019 rfl (by omega) (by omega) ?_
          intro x320 ex320 hx320a hx320b
          refine zw_7s zr_0_1020 rfl ?_
          refine zw_3 zr_0_1021 rfl ?_
          refine zw_push zr_0_1022 ?_
          refine zw_16 zr_0_1023 (by omega) ?_
          refine zw_100 zr_0_1024 rfl (by omega) (by omega) ?_
          intro x321 ex321 hx321a hx321b
          refine zw_7s zr_0_1025 rfl ?_
          refine zw_3 zr_0_1026 rfl ?_
          refine zw_push zr_0_1027 ?_
          refine zw_16 zr_0_1028 (by omega) ?_
          refine zw_100 zr_0_1029 rfl (by omega) (by omega) ?_
          intro x322 ex322 hx322a hx322b
          refine zw_7s zr_0_1030 rfl ?_
          refine zw_3 zr_0_1031 rfl ?_
          refine zw_push zr_0_1032 ?_
          refine zw_16 zr_0_1033 (by omega) ?_
          refine zw_100 zr_0_1034 rfl (by omega) (by omega) ?_
          intro x323 ex323 hx323a hx323b
          obtain ⟨f324, ef324⟩ : ∃ v, m3 1 0 = v := ⟨_, rfl⟩
          have bf324 := ib_1_0 hIm3
          rw [ef324] at bf324
          refine zw_C zr_0_1035 (Or.inl rfl) zm_129 rfl rfl ⟨Nat.le_of_ble_eq_true rfl, Nat.le_of_ble_eq_true rfl, Nat.le_of_ble_eq_true rfl, rfl, by decide⟩ (by omega) (th_129 (d := d - 1) (by omega) hIm3 (a0 := x320) (a1 := x321) (a2 := x322) (a3 := x323) (g0 := f324)  (F3 := m3 3) (F4 := m3 4) ef324 rfl rfl (by omega) (by omega) (by omega) (by omega) ) ?_
          rintro _ m325 ⟨r326, rfl, hr326a, hr326b, hIm325, gm325, po0_r326, po1_r326, po2_r326⟩
          have hFm325 : zFr W_0 m0 m325 := hFm3.trans gm325 rfl
          have km325_1_0 : m325 1 0 = f324 := (gm325 1 0 rfl).trans ef324
          show zW E (d) 0 1038 [(6, 0), (2, 0), (2, 69), (0, i2)] [(0, r326)] m325 Q
          refine zw_115 zr_0_1038 rfl ?_
          refine zw_7 zr_0_1039 rfl ?_
          refine zw_7s zr_0_1040 rfl ?_
          refine zw_3 zr_0_1041 rfl ?_
          refine zw_push zr_0_1042 ?_
          refine zw_16 zr_0_1043 (by omega) ?_
          refine zw_100k zr_0_1044 rfl (by omega) (by omega) ex320.symm ?_
          refine zw_7s zr_0_1045 rfl ?_
          refine zw_3 zr_0_1046 rfl ?_
          refine zw_push zr_0_1047 ?_
          refine zw_16 zr_0_1048 (by omega) ?_
          refine zw_100k zr_0_1049 rfl (by omega) (by omega) ex321.symm ?_
          refine zw_7s zr_0_1050 rfl ?_
          refine zw_3 zr_0_1051 rfl ?_
          refine zw_push zr_0_1052 ?_
          refine zw_16 zr_0_1053 (by omega) ?_
          refine zw_100k zr_0_1054 rfl (by omega) (by omega) ex322.symm ?_
          refine zw_7s zr_0_1055 rfl ?_
          refine zw_3 zr_0_1056 rfl ?_
          refine zw_push zr_0_1057 ?_
          refine zw_16 zr_0_1058 (by omega) ?_
          refine zw_100k zr_0_1059 rfl (by omega) (by omega) ex323.symm ?_
          obtain ⟨f327, ef327⟩ : ∃ v, m325 70 822 = v := ⟨_, rfl⟩
          have bf327 : 0 ≤ m325 70 822 ∧ m325 70 822 ≤ 10 := ib_70_players hIm325 (by omega)
          rw [ef327] at bf327
          refine zw_C zr_0_1060 (Or.inl rfl) zm_204 rfl rfl ⟨Nat.le_of_ble_eq_true rfl, Nat.le_of_ble_eq_true rfl, Nat.le_of_ble_eq_true rfl, rfl, by decide⟩ (by omega) (th_204 (d := d - 1) (by omega) hIm325 (a0 := x320) (a1 := x321) (a2 := x322) (a3 := x323) (g0 := f327)  (F70 := m325 70) ef327 rfl (by omega) (by omega) (by omega) (by omega) ) ?_
          rintro _ m328 ⟨r329, rfl, hr329a, hr329b, hIm328, gm328, po0_r329, po1_r329⟩
          have hFm328 : zFr W_0 m0 m328 := hFm325.trans gm328 rfl
          have km328_1_0 : m328 1 0 = f324 := (gm328 1 0 rfl).trans km325_1_0
          show zW E (d) 0 1063 [(6, 0), (2, 0), (2, 69), (0, i2)] [(0, r329)] m328 Q
          obtain ⟨hkz330, hrz330⟩ := zk_moves hIm3 hv0lp18_4 gm325 ef324 po0_r326 po1_r326 po2_r326 gm328 ef327 po0_r329 po1_r329
          refine zw_115 zr_0_1063 rfl ?_
          refine zw_42 zr_0_1064 ?_
          refine zw_15 (c := 6) (L' := [(6, 0), (2, 0), (2, 69), (0, (i2 + 6))]) zr_0_1238 rfl (by decide) (by omega) rfl ?_
          refine zw_42 zr_0_1241 ?_
          exact zw_less (L := [(6, 0), (2, 0), (2, 69), (0, (i2 + 6))]) ⟨Or.inr rfl, Or.inr rfl, Or.inr rfl, Or.inr rfl, trivial⟩ (ihlp18_4 ((i2 + 6)) m328 hIm328 hFm328   (by omega) (by omega) (by assumption) (by omega))
        by_cases h332 : x9 = 27
        · refine zw_111 (t := 1067) zr_0_33 (by rw [h332]; rfl) ?_
          refine zw_7 zr_0_1067 rfl ?_
          refine zw_7s zr_0_1068 rfl ?_
          refine zw_3 zr_0_1069 rfl ?_
          refine zw_push zr_0_1070 ?_
          refine zw_16 zr_0_1071 (by omega) ?_
          refine zw_100 zr_0_1072 rfl (by omega) (by omega) ?_
          intro x333 ex333 hx333a hx333b
          refine zw_7s zr_0_1073 rfl ?_
          refine zw_3 zr_0_1074 rfl ?_
          refine zw_push zr_0_1075 ?_
          refine zw_16 zr_0_1076 (by omega) ?_
          refine zw_100 zr_0_1077 rfl (by omega) (by omega) ?_
          intro x334 ex334 hx334a hx334b
          refine zw_C zr_0_1078 (Or.inl rfl) zm_130 rfl rfl ⟨Nat.le_of_ble_eq_true rfl, Nat.le_of_ble_eq_true rfl, Nat.le_of_ble_eq_true rfl, rfl, by decide⟩ (by omega) (th_130 (d := d - 1) (by omega) hIm3 (a0 := x333) (a1 := x334)   (F13 := m3 13)  rfl (by omega) (by omega) ) ?_
          rintro _ m335 ⟨r336, rfl, hr336a, hr336b, hIm335, gm335, po0_r336, po1_r336⟩
          have hFm335 : zFr W_0 m0 m335 := hFm3.trans gm335 rfl
          show zW E (d) 0 1081 [(6, 0), (2, 0), (2, 69), (0, i2)] [(0, r336)] m335 Q
          refine zw_115 zr_0_1081 rfl ?_
          refine zw_7 zr_0_1082 rfl ?_
          refine zw_7s zr_0_1083 rfl ?_
          refine zw_3 zr_0_1084 rfl ?_
          refine zw_push zr_0_1085 ?_
          refine zw_16 zr_0_1086 (by omega) ?_
          refine zw_100k zr_0_1087 rfl (by omega) (by omega) ex333.symm ?_
          refine zw_7s zr_0_1088 rfl ?_
          refine zw_3 zr_0_1089 rfl ?_
          refine zw_push zr_0_1090 ?_
          refine zw_16 zr_0_1091 (by omega) ?_
          refine zw_100k zr_0_1092 rfl (by omega) (by omega) ex334.symm ?_
          refine zw_C zr_0_1093 (Or.inl rfl) zm_205 rfl rfl ⟨Nat.le_of_ble_eq_true rfl, Nat.le_of_ble_eq_true rfl, Nat.le_of_ble_eq_true rfl, rfl, by decide⟩ (by omega) (th_205 (d := d - 1) (by omega) hIm335 (a0 := x333) (a1 := x334)   (F70 := m335 70)  rfl (by omega) (by omega) ) ?_
          rintro _ m337 ⟨r338, rfl, hr338a, hr338b, hIm337, gm337, po0_r338, po1_r338⟩
          have hFm337 : zFr W_0 m0 m337 := hFm335.trans gm337 rfl
          show zW E (d) 0 1096 [(6, 0), (2, 0), (2, 69), (0, i2)] [(0, r338)] m337 Q
          obtain ⟨hkz339, hrz339⟩ := zk_weight hIm3 hv0lp18_4 gm335 po0_r336 po1_r336 gm337 po0_r338 po1_r338
          refine zw_115 zr_0_1096 rfl ?_
          refine zw_42 zr_0_1097 ?_
          refine zw_15 (c := 6) (L' := [(6, 0), (2, 0), (2, 69), (0, (i2 + 6))]) zr_0_1238 rfl (by decide) (by omega) rfl ?_
          refine zw_42 zr_0_1241 ?_
          exact zw_less (L := [(6, 0), (2, 0), (2, 69), (0, (i2 + 6))]) ⟨Or.inr rfl, Or.inr rfl, Or.inr rfl, Or.inr rfl, trivial⟩ (ihlp18_4 ((i2 + 6)) m337 hIm337 hFm337   (by omega) (by omega) (by assumption) (by omega))
        by_cases h341 : x9 = 28
        · refine zw_111 (t := 1100) zr_0_33 (by rw [h341]; rfl) ?_
          refine zw_7 zr_0_1100 rfl ?_
          refine zw_7s zr_0_1101 rfl ?_
          refine zw_3 zr_0_1102 rfl ?_
          refine zw_push zr_0_1103 ?_
          refine zw_16 zr_0_1104 (by omega) ?_
          refine zw_100 zr_0_1105 rfl (by omega) (by omega) ?_
          intro x342 ex342 hx342a hx342b
          refine zw_7s zr_0_1106 rfl ?_
          refine zw_3 zr_0_1107 rfl ?_
          refine zw_push zr_0_1108 ?_
          refine zw_16 zr_0_1109 (by omega) ?_
          refine zw_100 zr_0_1110 rfl (by omega) (by omega) ?_
          intro x343 ex343 hx343a hx343b
          obtain ⟨f344, ef344⟩ : ∃ v, m3 1 0 = v := ⟨_, rfl⟩
          have bf344 := ib_1_0 hIm3
          rw [ef344] at bf344
          refine zw_C zr_0_1111 (Or.inl rfl) zm_132 rfl rfl ⟨Nat.le_of_ble_eq_true rfl, Nat.le_of_ble_eq_true rfl, Nat.le_of_ble_eq_true rfl, rfl, by decide⟩ (by omega) (th_132 (d := d - 1) (by omega) hIm3 (a0 := x342) (a1 := x343) (g0 := f344)  (F4 := m3 4) ef344 rfl (by omega) (by omega) ) ?_
          rintro _ m345 ⟨r346, rfl, hr346a, hr346b, hIm345, gm345, po0_r346⟩
          have hFm345 : zFr W_0 m0 m345 := hFm3.trans gm345 rfl
          have km345_1_0 : m345 1 0 = f344 := (gm345 1 0 rfl).trans ef344
          show zW E (d) 0 1114 [(6, 0), (2, 0), (2, 69), (0, i2)] [(0, r346)] m345 Q
          refine zw_115 zr_0_1114 rfl ?_
          refine zw_7 zr_0_1115 rfl ?_
          refine zw_7s zr_0_1116 rfl ?_
          refine zw_3 zr_0_1117 rfl ?_
          refine zw_push zr_0_1118 ?_
          refine zw_16 zr_0_1119 (by omega) ?_
          refine zw_100k zr_0_1120 rfl (by omega) (by omega) ex342.symm ?_
          refine zw_7s zr_0_1121 rfl ?_
          refine zw_3 zr_0_1122 rfl ?_
          refine zw_push zr_0_1123 ?_
          refine zw_16 zr_0_1124 (by omega) ?_
          refine zw_100k zr_0_1125 rfl (by omega) (by omega) ex343.symm ?_
          obtain ⟨f347, ef347⟩ : ∃ v, m345 70 822 = v := ⟨_, rfl⟩
          have bf347 : 0 ≤ m345 70 822 ∧ m345 70 822 ≤ 10 := ib_70_players hIm345 (by omega)
          rw [ef347] at bf347
          refine zw_C zr_0_1126 (Or.inl rfl) zm_206 rfl rfl ⟨Nat.le_of_ble_eq_true rfl, Nat.le_of_ble_eq_true rfl, Nat.le_of_ble_eq_true rfl, rfl, by decide⟩ (by omega) (th_206 (d := d - 1) (by omega) hIm345 (a0 := x342) (a1 := x343) (g0 := f347)  (F70 := m345 70) ef347 rfl (by omega) (by omega) ) ?_
          rintro _ m348 ⟨r349, rfl, hr349a, hr349b, hIm348, gm348, po0_r349⟩
          have hFm348 : zFr W_0 m0 m348 := hFm345.trans gm348 rfl
          have km348_1_0 : m348 1 0 = f344 := (gm348 1 0 rfl).trans km345_1_0
          have km348_70_822 : m348 70 822 = f347 := (gm348 70 822 rfl).trans ef347
          show zW E (d) 0 1129 [(6, 0), (2, 0), (2, 69), (0, i2)] [(0, r349)] m348 Q
          have hkz350_0 := zk_fr hv0lp18_4 gm345
          have hkz350_1 := zk_fr hkz350_0 gm348
          have hqz351 := zq_share hIm3 hv0lp18_4 gm345 ef344 po0_r346 ef347 po0_r349
          refine zw_115 zr_0_1129 rfl ?_
          refine zw_42 zr_0_1130 ?_
          refine zw_15 (c := 6) (L' := [(6, 0), (2, 0), (2, 69), (0, (i2 + 6))]) zr_0_1238 rfl (by decide) (by omega) rfl ?_
          refine zw_42 zr_0_1241 ?_
          exact zw_less (L := [(6, 0), (2, 0), (2, 69), (0, (i2 + 6))]) ⟨Or.inr rfl, Or.inr rfl, Or.inr rfl, Or.inr rfl, trivial⟩ (ihlp18_4 ((i2 + 6)) m348 hIm348 hFm348   (by omega) (by omega) (by assumption) (by omega))
        by_cases h353 : x9 = 29
        · refine zw_111 (t := 1133) zr_0_33 (by rw [h353]; rfl) ?_
          refine zw_7 zr_0_1133 rfl ?_
          refine zw_7s zr_0_1134 rfl ?_
          refine zw_3 zr_0_1135 rfl ?_
          refine zw_push zr_0_1136 ?_
          refine zw_16 zr_0_1137 (by omega) ?_
          refine zw_100 zr_0_1138 rfl (by omega) (by omega) ?_
          intro x354 ex354 hx354a hx354b
          refine zw_C zr_0_1139 (Or.inl rfl) zm_133 rfl rfl ⟨Nat.le_of_ble_eq_true rfl, Nat.le_of_ble_eq_true rfl, Nat.le_of_ble_eq_true rfl, rfl, by decide⟩ (by omega) (th_133 (d := d - 1) (by omega) hIm3 (a0 := x354)      (by omega) ) ?_
          rintro _ _ ⟨r355, rfl, hr355a, hr355b, rfl⟩
          show zW E (d) 0 1142 [(6, 0), (2, 0), (2, 69), (0, i2)] [(1, r355)] m3 Q
          refine zw_116 zr_0_1142 rfl ?_
          refine zw_7 zr_0_1143 rfl ?_
          refine zw_7s zr_0_1144 rfl ?_
          refine zw_3 zr_0_1145 rfl ?_
          refine zw_push zr_0_1146 ?_
          refine zw_16 zr_0_1147 (by omega) ?_
          refine zw_100k zr_0_1148 rfl (by omega) (by omega) ex354.symm ?_
          refine zw_C zr_0_1149 (Or.inl rfl) zm_207 rfl rfl ⟨Nat.le_of_ble_eq_true rfl, Nat.le_of_ble_eq_true rfl, Nat.le_of_ble_eq_true rfl, rfl, by decide⟩ (by omega) (th_207 (d := d - 1) (by omega) hIm3 (a0 := x354)      (by omega) ) ?_
          rintro _ _ ⟨r356, rfl, hr356a, hr356b, rfl⟩
          show zW E (d) 0 1152 [(6, 0), (2, 0), (2, 69), (0, i2)] [(1, r356)] m3 Q
          refine zw_116 zr_0_1152 rfl ?_
          refine zw_42 zr_0_1153 ?_
          refine zw_15 (c := 6) (L' := [(6, 0), (2, 0), (2, 69), (0, (i2 + 6))]) zr_0_1238 rfl (by decide) (by omega) rfl ?_
          refine zw_42 zr_0_1241 ?_
          exact zw_less (L := [(6, 0), (2, 0), (2, 69), (0, (i2 + 6))]) ⟨Or.inr rfl, Or.inr rfl, Or.inr rfl, Or.inr rfl, trivial⟩ (ihlp18_4 ((i2 + 6)) m3 hIm3 hFm3   (by omega) (by omega) (by assumption) (by omega))
        by_cases h359 : x9 = 30
        · refine zw_111 (t := 1156) zr_0_33 (by rw [h359]; rfl) ?_
          refine zw_7 zr_0_1156 rfl ?_
          refine zw_7s zr_0_1157 rfl ?_
          refine zw_3 zr_0_1158 rfl ?_
          refine zw_push zr_0_1159 ?_
          refine zw_16 zr_0_1160 (by omega) ?_
          refine zw_100 zr_0_1161 rfl (by omega) (by omega) ?_
          intro x360 ex360 hx360a hx360b
          refine zw_C zr_0_1162 (Or.inl rfl) zm_134 rfl rfl ⟨Nat.le_of_ble_eq_true rfl, Nat.le_of_ble_eq_true rfl, Nat.le_of_ble_eq_true rfl, rfl, by decide⟩ (by omega) (th_134 (d := d - 1) (by omega) hIm3 (a0 := x360)      (by omega) ) ?_
          rintro _ m361 ⟨r362, rfl, hr362a, hr362b, hIm361, gm361, po0_r362⟩
          have hFm361 : zFr W_0 m0 m361 := hFm3.trans gm361 rfl
          show zW E (d) 0 1165 [(6, 0), (2, 0), (2, 69), (0, i2)] [(0, r362)] m361 Q
          refine zw_115 zr_0_1165 rfl ?_
          refine zw_7 zr_0_1166 rfl ?_
          refine zw_7s zr_0_1167 rfl ?_
          refine zw_3 zr_0_1168 rfl ?_
          refine zw_push zr_0_1169 ?_
          refine zw_16 zr_0_1170 (by omega) ?_
          refine zw_100k zr_0_1171 rfl (by omega) (by omega) ex360.symm ?_
          refine zw_C zr_0_1172 (Or.inl rfl) zm_208 rfl rfl ⟨Nat.le_of_ble_eq_true rfl, Nat.le_of_ble_eq_true rfl, Nat.le_of_ble_eq_true rfl, rfl, by decide⟩ (by omega) (th_208 (d := d - 1) (by omega) hIm361 (a0 := x360)   (F70 := m361 70) (F71 := m361 71) (F72 := m361 72)  rfl rfl rfl (by omega) ) ?_
          rintro _ m363 ⟨r364, rfl, hr364a, hr364b, hIm363, gm363, po0_r364⟩
          have hFm363 : zFr W_0 m0 m363 := hFm361.trans gm363 rfl
          show zW E (d) 0 1175 [(6, 0), (2, 0), (2, 69), (0, i2)] [(0, r364)] m363 Q
          obtain ⟨hkz365, hrz365⟩ := zk_image hv0lp18_4 gm361 po0_r362 gm363 po0_r364
          refine zw_115 zr_0_1175 rfl ?_
          refine zw_42 zr_0_1176 ?_
          refine zw_15 (c := 6) (L' := [(6, 0), (2, 0), (2, 69), (0, (i2 + 6))]) zr_0_1238 rfl (by decide) (by omega) rfl ?_
          refine zw_42 zr_0_1241 ?_
          exact zw_less (L := [(6, 0), (2, 0), (2, 69), (0, (i2 + 6))]) ⟨Or.inr rfl, Or.inr rfl, Or.inr rfl, Or.inr rfl, trivial⟩ (ihlp18_4 ((i2 + 6)) m363 hIm363 hFm363   (by omega) (by omega) (by assumption) (by omega))
        by_cases h367 : x9 = 31
        · refine zw_111 (t := 1179) zr_0_33 (by rw [h367]; rfl) ?_
          refine zw_7 zr_0_1179 rfl ?_
          refine zw_7s zr_0_1180 rfl ?_
          refine zw_3 zr_0_1181 rfl ?_
          refine zw_push zr_0_1182 ?_
          refine zw_16 zr_0_1183 (by omega) ?_
          refine zw_100 zr_0_1184 rfl (by omega) (by omega) ?_
          intro x368 ex368 hx368a hx368b
          refine zw_C zr_0_1185 (Or.inl rfl) zm_135 rfl rfl ⟨Nat.le_of_ble_eq_true rfl, Nat.le_of_ble_eq_true rfl, Nat.le_of_ble_eq_true rfl, rfl, by decide⟩ (by omega) (th_135 (d := d - 1) (by omega) hIm3 (a0 := x368)   (F41 := m3 41)  rfl (by omega) ) ?_
          rintro _ m369 ⟨r370, rfl, hr370a, hr370b, hIm369, gm369, po0_r370⟩
          have hFm369 : zFr W_0 m0 m369 := hFm3.trans gm369 rfl
          show zW E (d) 0 1188 [(6, 0), (2, 0), (2, 69), (0, i2)] [(0, r370)] m369 Q
          refine zw_115 zr_0_1188 rfl ?_
          refine zw_7 zr_0_1189 rfl ?_
          refine zw_7s zr_0_1190 rfl ?_
          refine zw_3 zr_0_1191 rfl ?_
          refine zw_push zr_0_1192 ?_
          refine zw_16 zr_0_1193 (by omega) ?_
          refine zw_100k zr_0_1194 rfl (by omega) (by omega) ex368.symm ?_
          refine zw_C zr_0_1195 (Or.inl rfl) zm_209 rfl rfl ⟨Nat.le_of_ble_eq_true rfl, Nat.le_of_ble_eq_true rfl, Nat.le_of_ble_eq_true rfl, rfl, by decide⟩ (by omega) (th_209 (d := d - 1) (by omega) hIm369 (a0 := x368)   (F70 := m369 70) (F71 := m369 71) (F72 := m369 72)  rfl rfl rfl (by omega) ) ?_
          rintro _ m371 ⟨r372, rfl, hr372a, hr372b, hIm371, gm371, po0_r372⟩
          have hFm371 : zFr W_0 m0 m371 := hFm369.trans gm371 rfl
          show zW E (d) 0 1198 [(6, 0), (2, 0), (2, 69), (0, i2)] [(0, r372)] m371 Q
          obtain ⟨hkz373, hrz373⟩ := zk_from hv0lp18_4 gm369 po0_r370 gm371 po0_r372
          refine zw_115 zr_0_1198 rfl ?_
          refine zw_42 zr_0_1199 ?_
          refine zw_15 (c := 6) (L' := [(6, 0), (2, 0), (2, 69), (0, (i2 + 6))]) zr_0_1238 rfl (by decide) (by omega) rfl ?_
          refine zw_42 zr_0_1241 ?_
          exact zw_less (L := [(6, 0), (2, 0), (2, 69), (0, (i2 + 6))]) ⟨Or.inr rfl, Or.inr rfl, Or.inr rfl, Or.inr rfl, trivial⟩ (ihlp18_4 ((i2 + 6)) m371 hIm371 hFm371   (by omega) (by omega) (by assumption) (by omega))
        by_cases h375 : x9 = 32
        · refine zw_111 (t := 1202) zr_0_33 (by rw [h375]; rfl) ?_
          refine zw_7 zr_0_1202 rfl ?_
          refine zw_7s zr_0_1203 rfl ?_
          refine zw_3 zr_0_1204 rfl ?_
          refine zw_push zr_0_1205 ?_
          refine zw_16 zr_0_1206 (by omega) ?_
          refine zw_100 zr_0_1207 rfl (by omega) (by omega) ?_
          intro x376 ex376 hx376a hx376b
          obtain ⟨f377, ef377⟩ : ∃ v, m3 1 0 = v := ⟨_, rfl⟩
          have bf377 := ib_1_0 hIm3
          rw [ef377] at bf377
          obtain ⟨f378, ef378⟩ : ∃ v, m3 1 1 = v := ⟨_, rfl⟩
          have bf378 := ib_1_1 hIm3
          rw [ef378] at bf378
          obtain ⟨f379, ef379⟩ : ∃ v, m3 1 2 = v := ⟨_, rfl⟩
          have bf379 := ib_1_2 hIm3
          rw [ef379] at bf379
          obtain ⟨f380, ef380⟩ : ∃ v, m3 1 3 = v := ⟨_, rfl⟩
          have bf380 := ib_1_3 hIm3
          rw [ef380] at bf380
          refine zw_C zr_0_1208 (Or.inl rfl) zm_137 rfl rfl ⟨Nat.le_of_ble_eq_true rfl, Nat.le_of_ble_eq_true rfl, Nat.le_of_ble_eq_true rfl, rfl, by decide⟩ (by omega) (th_137 (d := d - 1) (by omega) hIm3 (a0 := x376) (g0 := f377) (g1 := f378) (g2 := f379) (g3 := f380)   ef377 ef378 ef379 ef380  (by omega) ) ?_
          rintro _ _ ⟨r381, rfl, hr381a, hr381b, rfl, po0_r381⟩
          show zW E (d) 0 1211 [(6, 0), (2, 0), (2, 69), (0, i2)] [(0, r381)] m3 Q
          refine zw_115 zr_0_1211 rfl ?_
          refine zw_7 zr_0_1212 rfl ?_
          refine zw_7s zr_0_1213 rfl ?_
          refine zw_3 zr_0_1214 rfl ?_
          refine zw_push zr_0_1215 ?_
          refine zw_16 zr_0_1216 (by omega) ?_
          refine zw_100k zr_0_1217 rfl (by omega) (by omega) ex376.symm ?_
          obtain ⟨f382, ef382⟩ : ∃ v, m3 70 822 = v := ⟨_, rfl⟩
          have bf382 : 0 ≤ m3 70 822 ∧ m3 70 822 ≤ 10 := ib_70_players hIm3 (by omega)
          rw [ef382] at bf382
          obtain ⟨f383, ef383⟩ : ∃ v, m3 70 823 = v := ⟨_, rfl⟩
          have bf383 : 0 ≤ m3 70 823 ∧ m3 70 823 ≤ 60 := ib_70_meetings hIm3 (by omega)
          rw [ef383] at bf383
          refine zw_C zr_0_1218 (Or.inl rfl) zm_210 rfl rfl ⟨Nat.le_of_ble_eq_true rfl, Nat.le_of_ble_eq_true rfl, Nat.le_of_ble_eq_true rfl, rfl, by decide⟩ (by omega) (th_210 (d := d - 1) (by omega) hIm3 (a0 := x376) (g0 := f382) (g1 := f383)  (F70 := m3 70) ef382 ef383 rfl (by omega) ) ?_
          rintro _ _ ⟨r384, rfl, hr384a, hr384b, rfl, po0_r384⟩
          show zW E (d) 0 1221 [(6, 0), (2, 0), (2, 69), (0, i2)] [(0, r384)] m3 Q
          have hqz386 := zq_count hIm3 hv0lp18_4 (zFr.rfl (W := [])) ef377 ef378 ef379 ef380 po0_r381 ef382 ef383 po0_r384
          refine zw_115 zr_0_1221 rfl ?_
          refine zw_42 zr_0_1222 ?_
          refine zw_15 (c := 6) (L' := [(6, 0), (2, 0), (2, 69), (0, (i2 + 6))]) zr_0_1238 rfl (by decide) (by omega) rfl ?_
          refine zw_42 zr_0_1241 ?_
          exact zw_less (L := [(6, 0), (2, 0), (2, 69), (0, (i2 + 6))]) ⟨Or.inr rfl, Or.inr rfl, Or.inr rfl, Or.inr rfl, trivial⟩ (ihlp18_4 ((i2 + 6)) m3 hIm3 hFm3   (by omega) (by omega) (by assumption) (by omega))
        by_cases h388 : x9 = 33
        · refine zw_111 (t := 1225) zr_0_33 (by rw [h388]; rfl) ?_
          refine zw_7 zr_0_1225 rfl ?_
          refine zw_C zr_0_1226 (Or.inl rfl) zm_138 rfl rfl ⟨Nat.le_of_ble_eq_true rfl, Nat.le_of_ble_eq_true rfl, Nat.le_of_ble_eq_true rfl, rfl, by decide⟩ (by omega) (th_138 (d := d - 1) (by omega) hIm3        ) ?_
          rintro _ _ ⟨r389, rfl, hr389a, hr389b, rfl⟩
          show zW E (d) 0 1229 [(6, 0), (2, 0), (2, 69), (0, i2)] [(1, r389)] m3 Q
          refine zw_116 zr_0_1229 rfl ?_
          refine zw_7 zr_0_1230 rfl ?_
          refine zw_C zr_0_1231 (Or.inl rfl) zm_212 rfl rfl ⟨Nat.le_of_ble_eq_true rfl, Nat.le_of_ble_eq_true rfl, Nat.le_of_ble_eq_true rfl, rfl, by decide⟩ (by omega) (th_212 (d := d - 1) (by omega) hIm3        ) ?_
          rintro _ _ ⟨r390, rfl, hr390a, hr390b, rfl⟩
          show zW E (d) 0 1234 [(6, 0), (2, 0), (2, 69), (0, i2)] [(1, r390)] m3 Q
          refine zw_116 zr_0_1234 rfl ?_
          refine zw_42 zr_0_1235 ?_
          refine zw_15 (c := 6) (L' := [(6, 0), (2, 0), (2, 69), (0, (i2 + 6))]) zr_0_1238 rfl (by decide) (by omega) rfl ?_
          refine zw_42 zr_0_1241 ?_
          exact zw_less (L := [(6, 0), (2, 0), (2, 69), (0, (i2 + 6))]) ⟨Or.inr rfl, Or.inr rfl, Or.inr rfl, Or.inr rfl, trivial⟩ (ihlp18_4 ((i2 + 6)) m3 hIm3 hFm3   (by omega) (by omega) (by assumption) (by omega))
        refine zw_111d (t := 1238) zr_0_33 (by omega) rfl ?_
        refine zw_15 (c := 6) (L' := [(6, 0), (2, 0), (2, 69), (0, (i2 + 6))]) zr_0_1238 rfl (by decide) (by omega) rfl ?_
        refine zw_42 zr_0_1241 ?_
        exact zw_less (L := [(6, 0), (2, 0), (2, 69), (0, (i2 + 6))]) ⟨Or.inr rfl, Or.inr rfl, Or.inr rfl, Or.inr rfl, trivial⟩ (ihlp18_4 ((i2 + 6)) m3 hIm3 hFm3   (by omega) (by omega) (by assumption) (by omega))
  exact lp18_4 _ (0) m0 hI0 hF0   (by omega) (by omega) (hK0) (Nat.lt_succ_self _)
