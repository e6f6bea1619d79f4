abbrev W_0 : List (Nat × Nat) := [(1, 0), (1, 1), (1, 2), (1, 3), (1, 4), (1, 5), (2, 1000), (3, 1000), (4, 1000), (5, 1000), (6, 1000), (7, 1000), (8, 1000), (9, 1000), (10, 1000), (11, 1000), (12, 1000), (13, 1000), (15, 0), (15, 1), (15, 2), (15, 3), (15, 4), (15, 5), (16, 1000), (17, 1000), (18, 1000), (19, 1000), (20, 1000), (21, 1000), (22, 1000), (23, 1000), (24, 1000), (25, 1000), (26, 1000), (27, 1000), (28, 0), (28, 1), (28, 2), (28, 3), (28, 4), (28, 5), (29, 1000), (30, 1000), (31, 1000), (32, 1000), (33, 1000), (34, 1000), (35, 1000), (36, 1000), (37, 1000), (38, 1000), (39, 1000), (40, 1000), (41, 1000), (42, 0), (42, 1), (43, 5), (44, 1000), (45, 1), (45, 5), (45, 6), (45, 7), (45, 8), (45, 9), (46, 1000), (47, 1000), (48, 1000), (49, 1000), (50, 1000), (51, 1000), (52, 0), (52, 1), (52, 2), (53, 1000), (54, 1000), (55, 5), (56, 1000), (57, 1000), (58, 1000), (59, 1000), (61, 1000), (62, 1000), (63, 0), (64, 1000), (65, 1000), (66, 1000), (67, 1000), (68, 1000), (69, 3), (69, 4), (69, 5), (69, 6), (69, 7), (69, 9), (69, 11), (69, 13), (69, 17), (69, 18), (69, 23), (69, 24), (70, 1000), (71, 1000), (72, 1000), (73, 1000), (74, 1000), (75, 1000), (76, 1000), (77, 1000), (78, 1000), (79, 1000), (80, 1000), (81, 1000), (82, 1000), (83, 1000), (84, 1000)]
set_option maxHeartbeats 40000000 in
theorem th_0 {E : zE} {d : Nat} {m0 : zM} (hd : 97 ≤ d) (hI0 : zInv m0) (hK0 : qK m0) {n1 : Int} (hn1 : (E.1 : Int) = n1) (hn2 : n1 ≤ 3072) : zW E d 0 18 [(6, 0), (2, 0), (2, 69), (0, 0)] [] m0 (fun v m' => ∃ r : Int, v = (0, r) ∧ 1 ≤ r ∧ r ≤ 1 ∧ zInv m' ∧ zFr W_0 m0 m') := by
  have hF0 : zFr W_0 m0 m0 := zFr.rfl
  generalize hQ : (fun (v : zV) (m' : zM) => ∃ r : Int, v = (0, r) ∧ 1 ≤ r ∧ r ≤ 1 ∧ zInv m' ∧ zFr W_0 m0 m') = Q
  have lp18_4 : ∀ (nlp18_4 : Nat) (i2 : Int) (m3 : zM), zInv m3 → zFr W_0 m0 m3 → 0 ≤ i2 → i2 ≤ 9999 → (qK m3) → (3078 - i2).toNat < nlp18_4 → zW E (d) 0 18 [(6, 0), (2, 0), (2, 69), (0, i2)] [] m3 Q := by
    intro nlp18_4
    induction nlp18_4 with
    | zero =>
      intros
      exact absurd (by assumption : _ < 0) (Nat.not_lt_zero _)
    | succ nlp18_4 ihlp18_4 =>
      intro i2 m3 hIm3 hFm3 li2 ui2 hv0lp18_4 hmlp18_4
      refine zw_3 zr_0_18 rfl ?_
      refine zw_7s zr_0_19 rfl ?_
      refine zw_101n zr_0_20 rfl (by omega) hn1 ?_
      refine zw_push zr_0_21 ?_
      refine zw_17 zr_0_23 (by omega) ?_
      refine zw_41_2 zr_0_24 ?_ ?_
      · intro h6
        refine zw_push zr_0_1245 ?_
        refine zw_R zr_0_1246 (by decide) zm_0 (v := (0, 1)) (zRetB (by omega)) ?_
        rw [← hQ]; exact ⟨_, rfl, by omega, by omega, hIm3, hFm3⟩
      · intro h7
        refine zw_7s zr_0_27 rfl ?_
        refine zw_3 zr_0_28 rfl ?_
        refine zw_100 zr_0_29 rfl (by omega) (by omega) ?_
        intro x8 ex8 hx8a hx8b
        clear ex8
        refine zw_push zr_0_30 ?_
        refine zw_21m zr_0_32 (by omega) (by omega) ?_
        intro x9 hx9a hx9b
        by_cases h10 : x9 = 0
        · refine zw_111 (t := 184) zr_0_33 (by rw [h10]; rfl) ?_
          refine zw_7 zr_0_184 rfl ?_
          refine zw_7s zr_0_185 rfl ?_
          refine zw_3 zr_0_186 rfl ?_
          refine zw_push zr_0_187 ?_
          refine zw_16 zr_0_188 (by omega) ?_
          refine zw_100 zr_0_189 rfl (by omega) (by omega) ?_
          intro x11 ex11 hx11a hx11b
          obtain ⟨f12, ef12⟩ : ∃ v, m3 1 0 = v := ⟨_, rfl⟩
          have bf12 := ib_1_0 hIm3
          rw [ef12] at bf12
          refine zw_C zr_0_190 (Or.inl rfl) zm_99 rfl rfl ⟨Nat.le_of_ble_eq_true rfl, Nat.le_of_ble_eq_true rfl, Nat.le_of_ble_eq_true rfl, rfl, by decide⟩ (by omega) (th_99 (d := d - 1) (by omega) hIm3 (a0 := x11) (g0 := f12)  (F2 := m3 2) ef12 rfl (by omega) ) ?_
          rintro _ m13 ⟨r14, rfl, hr14a, hr14b, hIm13, gm13, po0_r14, po1_r14, po2_r14⟩
          have hFm13 : zFr W_0 m0 m13 := hFm3.trans gm13 rfl
          show zW E (d) 0 193 [(6, 0), (2, 0), (2, 69), (0, i2)] [(0, r14)] m13 Q
          refine zw_115 zr_0_193 rfl ?_
          refine zw_7 zr_0_194 rfl ?_
          refine zw_7s zr_0_195 rfl ?_
          refine zw_3 zr_0_196 rfl ?_
          refine zw_push zr_0_197 ?_
          refine zw_16 zr_0_198 (by omega) ?_
          refine zw_100k zr_0_199 rfl (by omega) (by omega) ex11.symm ?_
          obtain ⟨f15, ef15⟩ : ∃ v, m13 70 822 = v := ⟨_, rfl⟩
          have bf15 : 0 ≤ m13 70 822 ∧ m13 70 822 ≤ 10 := ib_70_players hIm13 (by omega)
          rw [ef15] at bf15
          refine zw_C zr_0_200 (Or.inl rfl) zm_145 rfl rfl ⟨Nat.le_of_ble_eq_true rfl, Nat.le_of_ble_eq_true rfl, Nat.le_of_ble_eq_true rfl, rfl, by decide⟩ (by omega) (th_145 (d := d - 1) (by omega) hIm13 (a0 := x11) (g0 := f15)  (F70 := m13 70) ef15 rfl (by omega) ) ?_
          rintro _ m16 ⟨r17, rfl, hr17a, hr17b, hIm16, gm16, po0_r17, po1_r17⟩
          have hFm16 : zFr W_0 m0 m16 := hFm13.trans gm16 rfl
          show zW E (d) 0 203 [(6, 0), (2, 0), (2, 69), (0, i2)] [(0, r17)] m16 Q
          obtain ⟨hkz18, hrz18⟩ := zk_player hIm3 hv0lp18_4 gm13 ef12 po0_r14 po1_r14 po2_r14 gm16 ef15 po0_r17 po1_r17
          refine zw_115 zr_0_203 rfl ?_
          refine zw_42 zr_0_204 ?_
          refine zw_15 (c := 6) (L' := [(6, 0), (2, 0), (2, 69), (0, (i2 + 6))]) zr_0_1239 rfl (by decide) (by omega) rfl ?_
          refine zw_42 zr_0_1242 ?_
          exact zw_less (L := [(6, 0), (2, 0), (2, 69), (0, (i2 + 6))]) ⟨Or.inr rfl, Or.inr rfl, Or.inr rfl, Or.inr rfl, trivial⟩ (ihlp18_4 ((i2 + 6)) m16 hIm16 hFm16   (by omega) (by omega) (by assumption) (by omega))
        by_cases h20 : x9 = 1
        · refine zw_111 (t := 207) zr_0_33 (by rw [h20]; rfl) ?_
          refine zw_7 zr_0_207 rfl ?_
          refine zw_7s zr_0_208 rfl ?_
          refine zw_3 zr_0_209 rfl ?_
          refine zw_push zr_0_210 ?_
          refine zw_16 zr_0_211 (by omega) ?_
          refine zw_100 zr_0_212 rfl (by omega) (by omega) ?_
          intro x21 ex21 hx21a hx21b
          refine zw_7s zr_0_213 rfl ?_
          refine zw_3 zr_0_214 rfl ?_
          refine zw_push zr_0_215 ?_
          refine zw_16 zr_0_216 (by omega) ?_
          refine zw_100 zr_0_217 rfl (by omega) (by omega) ?_
          intro x22 ex22 hx22a hx22b
          refine zw_7s zr_0_218 rfl ?_
          refine zw_3 zr_0_219 rfl ?_
          refine zw_push zr_0_220 ?_
          refine zw_16 zr_0_221 (by omega) ?_
          refine zw_100 zr_0_222 rfl (by omega) (by omega) ?_
          intro x23 ex23 hx23a hx23b
          refine zw_7s zr_0_223 rfl ?_
          refine zw_3 zr_0_224 rfl ?_
          refine zw_push zr_0_225 ?_
          refine zw_16 zr_0_226 (by omega) ?_
          refine zw_100 zr_0_227 rfl (by omega) (by omega) ?_
          intro x24 ex24 hx24a hx24b
          refine zw_7s zr_0_228 rfl ?_
          refine zw_3 zr_0_229 rfl ?_
          refine zw_push zr_0_230 ?_
          refine zw_16 zr_0_231 (by omega) ?_
          refine zw_100 zr_0_232 rfl (by omega) (by omega) ?_
          intro x25 ex25 hx25a hx25b
          refine zw_40_1 zr_0_233 ?_ ?_
          · intro h26
            refine zw_push zr_0_240 ?_
            obtain ⟨f27, ef27⟩ : ∃ v, m3 1 0 = v := ⟨_, rfl⟩
            have bf27 := ib_1_0 hIm3
            rw [ef27] at bf27
            obtain ⟨f28, ef28⟩ : ∃ v, m3 1 1 = v := ⟨_, rfl⟩
            have bf28 := ib_1_1 hIm3
            rw [ef28] at bf28
            obtain ⟨f29, ef29⟩ : ∃ v, m3 1 2 = v := ⟨_, rfl⟩
            have bf29 := ib_1_2 hIm3
            rw [ef29] at bf29
            refine zw_C zr_0_241 (Or.inl rfl) zm_102 rfl rfl ⟨Nat.le_of_ble_eq_true rfl, Nat.le_of_ble_eq_true rfl, Nat.le_of_ble_eq_true rfl, rfl, by decide⟩ (by omega) (th_102 (d := d - 1) (by omega) hIm3 (a0 := x21) (a1 := x22) (a2 := x23) (a3 := x24) (a4 := 0) (g0 := f27) (g1 := f28) (g2 := f29)  (F5 := m3 5) (F6 := m3 6) (F7 := m3 7) (F8 := m3 8) ef27 ef28 ef29 rfl rfl rfl rfl (by omega) (by omega) (by omega) (by omega) (by omega) ) ?_
            rintro _ m30 ⟨r31, rfl, hr31a, hr31b, hIm30, gm30, po0_r31, po1_r31, po2_r31, po3_r31, po4_r31, po5_r31, po6_r31, po7_r31⟩
            have hFm30 : zFr W_0 m0 m30 := hFm3.trans gm30 rfl
            have km30_1_0 : m30 1 0 = f27 := (gm30 1 0 rfl).trans ef27
            show zW E (d) 0 244 [(6, 0), (2, 0), (2, 69), (0, i2)] [(0, r31)] m30 Q
            refine zw_115 zr_0_244 rfl ?_
            refine zw_7 zr_0_245 rfl ?_
            refine zw_7s zr_0_246 rfl ?_
            refine zw_3 zr_0_247 rfl ?_
            refine zw_push zr_0_248 ?_
            refine zw_16 zr_0_249 (by omega) ?_
            refine zw_100k zr_0_250 rfl (by omega) (by omega) ex21.symm ?_
            refine zw_7s zr_0_251 rfl ?_
            refine zw_3 zr_0_252 rfl ?_
            refine zw_push zr_0_253 ?_
            refine zw_16 zr_0_254 (by omega) ?_
            refine zw_100k zr_0_255 rfl (by omega) (by omega) ex22.symm ?_
            refine zw_7s zr_0_256 rfl ?_
            refine zw_3 zr_0_257 rfl ?_
            refine zw_push zr_0_258 ?_
            refine zw_16 zr_0_259 (by omega) ?_
            refine zw_100k zr_0_260 rfl (by omega) (by omega) ex23.symm ?_
            refine zw_7s zr_0_261 rfl ?_
            refine zw_3 zr_0_262 rfl ?_
            refine zw_push zr_0_263 ?_
            refine zw_16 zr_0_264 (by omega) ?_
            refine zw_100k zr_0_265 rfl (by omega) (by omega) ex24.symm ?_
            refine zw_7s zr_0_266 rfl ?_
            refine zw_3 zr_0_267 rfl ?_
            refine zw_push zr_0_268 ?_
            refine zw_16 zr_0_269 (by omega) ?_
            refine zw_100k zr_0_270 rfl (by omega) (by omega) ex25.symm ?_
            refine zw_40_1 zr_0_271 ?_ ?_
            · intro h32
              refine zw_push zr_0_278 ?_
              obtain ⟨f33, ef33⟩ : ∃ v, m30 70 822 = v := ⟨_, rfl⟩
              have bf33 : 0 ≤ m30 70 822 ∧ m30 70 822 ≤ 10 := ib_70_players hIm30 (by omega)
              rw [ef33] at bf33
              obtain ⟨f34, ef34⟩ : ∃ v, m30 70 823 = v := ⟨_, rfl⟩
              have bf34 : 0 ≤ m30 70 823 ∧ m30 70 823 ≤ 60 := ib_70_meetings hIm30 (by omega)
              rw [ef34] at bf34
              refine zw_C zr_0_279 (Or.inl rfl) zm_146 rfl rfl ⟨Nat.le_of_ble_eq_true rfl, Nat.le_of_ble_eq_true rfl, Nat.le_of_ble_eq_true rfl, rfl, by decide⟩ (by omega) (th_146 (d := d - 1) (by omega) hIm30 (a0 := x21) (a1 := x22) (a2 := x23) (a3 := x24) (a4 := 0) (g0 := f33) (g1 := f34)  (F70 := m30 70) ef33 ef34 rfl (by omega) (by omega) (by omega) (by omega) (by omega) ) ?_
              rintro _ m35 ⟨r36, rfl, hr36a, hr36b, hIm35, gm35, po0_r36, po1_r36⟩
              have hFm35 : zFr W_0 m0 m35 := hFm30.trans gm35 rfl
              have km35_1_0 : m35 1 0 = f27 := (gm35 1 0 rfl).trans km30_1_0
              show zW E (d) 0 282 [(6, 0), (2, 0), (2, 69), (0, i2)] [(0, r36)] m35 Q
              obtain ⟨hkz37, hrz37⟩ := zk_meeting hIm3 hv0lp18_4 gm30 ef27 ef28 ef29 po0_r31 po1_r31 po2_r31 po3_r31 po4_r31 po5_r31 po6_r31 po7_r31 gm35 ef33 ef34 po0_r36 po1_r36
              refine zw_115 zr_0_282 rfl ?_
              refine zw_42 zr_0_283 ?_
              refine zw_15 (c := 6) (L' := [(6, 0), (2, 0), (2, 69), (0, (i2 + 6))]) zr_0_1239 rfl (by decide) (by omega) rfl ?_
              refine zw_42 zr_0_1242 ?_
              exact zw_less (L := [(6, 0), (2, 0), (2, 69), (0, (i2 + 6))]) ⟨Or.inr rfl, Or.inr rfl, Or.inr rfl, Or.inr rfl, trivial⟩ (ihlp18_4 ((i2 + 6)) m35 hIm35 hFm35   (by omega) (by omega) (by assumption) (by omega))
            · intro h39; omega
          · intro h40
            refine zw_push zr_0_236 ?_
            refine zw_42 zr_0_237 ?_
            obtain ⟨f41, ef41⟩ : ∃ v, m3 1 0 = v := ⟨_, rfl⟩
            have bf41 := ib_1_0 hIm3
            rw [ef41] at bf41
            obtain ⟨f42, ef42⟩ : ∃ v, m3 1 1 = v := ⟨_, rfl⟩
            have bf42 := ib_1_1 hIm3
            rw [ef42] at bf42
            obtain ⟨f43, ef43⟩ : ∃ v, m3 1 2 = v := ⟨_, rfl⟩
            have bf43 := ib_1_2 hIm3
            rw [ef43] at bf43
            refine zw_C zr_0_241 (Or.inl rfl) zm_102 rfl rfl ⟨Nat.le_of_ble_eq_true rfl, Nat.le_of_ble_eq_true rfl, Nat.le_of_ble_eq_true rfl, rfl, by decide⟩ (by omega) (th_102 (d := d - 1) (by omega) hIm3 (a0 := x21) (a1 := x22) (a2 := x23) (a3 := x24) (a4 := 1) (g0 := f41) (g1 := f42) (g2 := f43)  (F5 := m3 5) (F6 := m3 6) (F7 := m3 7) (F8 := m3 8) ef41 ef42 ef43 rfl rfl rfl rfl (by omega) (by omega) (by omega) (by omega) (by omega) ) ?_
            rintro _ m44 ⟨r45, rfl, hr45a, hr45b, hIm44, gm44, po0_r45, po1_r45, po2_r45, po3_r45, po4_r45, po5_r45, po6_r45, po7_r45⟩
            have hFm44 : zFr W_0 m0 m44 := hFm3.trans gm44 rfl
            have km44_1_0 : m44 1 0 = f41 := (gm44 1 0 rfl).trans ef41
            show zW E (d) 0 244 [(6, 0), (2, 0), (2, 69), (0, i2)] [(0, r45)] m44 Q
            refine zw_115 zr_0_244 rfl ?_
            refine zw_7 zr_0_245 rfl ?_
            refine zw_7s zr_0_246 rfl ?_
            refine zw_3 zr_0_247 rfl ?_
            refine zw_push zr_0_248 ?_
            refine zw_16 zr_0_249 (by omega) ?_
            refine zw_100k zr_0_250 rfl (by omega) (by omega) ex21.symm ?_
            refine zw_7s zr_0_251 rfl ?_
            refine zw_3 zr_0_252 rfl ?_
            refine zw_push zr_0_253 ?_
            refine zw_16 zr_0_254 (by omega) ?_
            refine zw_100k zr_0_255 rfl (by omega) (by omega) ex22.symm ?_
            refine zw_7s zr_0_256 rfl ?_
            refine zw_3 zr_0_257 rfl ?_
            refine zw_push zr_0_258 ?_
            refine zw_16 zr_0_259 (by omega) ?_
            refine zw_100k zr_0_260 rfl (by omega) (by omega) ex23.symm ?_
            refine zw_7s zr_0_261 rfl ?_
            refine zw_3 zr_0_262 rfl ?_
            refine zw_push zr_0_263 ?_
            refine zw_16 zr_0_264 (by omega) ?_
            refine zw_100k zr_0_265 rfl (by omega) (by omega) ex24.symm ?_
            refine zw_7s zr_0_266 rfl ?_
            refine zw_3 zr_0_267 rfl ?_
            refine zw_push zr_0_268 ?_
            refine zw_16 zr_0_269 (by omega) ?_
            refine zw_100k zr_0_270 rfl (by omega) (by omega) ex25.symm ?_
            refine zw_40_1 zr_0_271 ?_ ?_
            · intro h46; omega
            · intro h47
              refine zw_push zr_0_274 ?_
              refine zw_42 zr_0_275 ?_
              obtain ⟨f48, ef48⟩ : ∃ v, m44 70 822 = v := ⟨_, rfl⟩
              have bf48 : 0 ≤ m44 70 822 ∧ m44 70 822 ≤ 10 := ib_70_players hIm44 (by omega)
              rw [ef48] at bf48
              obtain ⟨f49, ef49⟩ : ∃ v, m44 70 823 = v := ⟨_, rfl⟩
              have bf49 : 0 ≤ m44 70 823 ∧ m44 70 823 ≤ 60 := ib_70_meetings hIm44 (by omega)
              rw [ef49] at bf49
              refine zw_C zr_0_279 (Or.inl rfl) zm_146 rfl rfl ⟨Nat.le_of_ble_eq_true rfl, Nat.le_of_ble_eq_true rfl, Nat.le_of_ble_eq_true rfl, rfl, by decide⟩ (by omega) (th_146 (d := d - 1) (by omega) hIm44 (a0 := x21) (a1 := x22) (a2 := x23) (a3 := x24) (a4 := 1) (g0 := f48) (g1 := f49)  (F70 := m44 70) ef48 ef49 rfl (by omega) (by omega) (by omega) (by omega) (by omega) ) ?_
              rintro _ m50 ⟨r51, rfl, hr51a, hr51b, hIm50, gm50, po0_r51, po1_r51⟩
              have hFm50 : zFr W_0 m0 m50 := hFm44.trans gm50 rfl
              have km50_1_0 : m50 1 0 = f41 := (gm50 1 0 rfl).trans km44_1_0
              show zW E (d) 0 282 [(6, 0), (2, 0), (2, 69), (0, i2)] [(0, r51)] m50 Q
              obtain ⟨hkz52, hrz52⟩ := zk_meeting hIm3 hv0lp18_4 gm44 ef41 ef42 ef43 po0_r45 po1_r45 po2_r45 po3_r45 po4_r45 po5_r45 po6_r45 po7_r45 gm50 ef48 ef49 po0_r51 po1_r51
              refine zw_115 zr_0_282 rfl ?_
              refine zw_42 zr_0_283 ?_
              refine zw_15 (c := 6) (L' := [(6, 0), (2, 0), (2, 69), (0, (i2 + 6))]) zr_0_1239 rfl (by decide) (by omega) rfl ?_
              refine zw_42 zr_0_1242 ?_
              exact zw_less (L := [(6, 0), (2, 0), (2, 69), (0, (i2 + 6))]) ⟨Or.inr rfl, Or.inr rfl, Or.inr rfl, Or.inr rfl, trivial⟩ (ihlp18_4 ((i2 + 6)) m50 hIm50 hFm50   (by omega) (by omega) (by assumption) (by omega))
        by_cases h54 : x9 = 2
        · refine zw_111 (t := 286) zr_0_33 (by rw [h54]; rfl) ?_
          refine zw_7 zr_0_286 rfl ?_
          refine zw_7s zr_0_287 rfl ?_
          refine zw_3 zr_0_288 rfl ?_
          refine zw_push zr_0_289 ?_
          refine zw_16 zr_0_290 (by omega) ?_
          refine zw_100 zr_0_291 rfl (by omega) (by omega) ?_
          intro x55 ex55 hx55a hx55b
          refine zw_7s zr_0_292 rfl ?_
          refine zw_3 zr_0_293 rfl ?_
          refine zw_push zr_0_294 ?_
          refine zw_16 zr_0_295 (by omega) ?_
          refine zw_100 zr_0_296 rfl (by omega) (by omega) ?_
          intro x56 ex56 hx56a hx56b
          refine zw_7s zr_0_297 rfl ?_
          refine zw_3 zr_0_298 rfl ?_
          refine zw_push zr_0_299 ?_
          refine zw_16 zr_0_300 (by omega) ?_
          refine zw_100 zr_0_301 rfl (by omega) (by omega) ?_
          intro x57 ex57 hx57a hx57b
          refine zw_40_1 zr_0_302 ?_ ?_
          · intro h58
            refine zw_push zr_0_309 ?_
            obtain ⟨f59, ef59⟩ : ∃ v, m3 1 1 = v := ⟨_, rfl⟩
            have bf59 := ib_1_1 hIm3
            rw [ef59] at bf59
            obtain ⟨f60, ef60⟩ : ∃ v, m3 1 2 = v := ⟨_, rfl⟩
            have bf60 := ib_1_2 hIm3
            rw [ef60] at bf60
            obtain ⟨f61, ef61⟩ : ∃ v, m3 1 3 = v := ⟨_, rfl⟩
            have bf61 := ib_1_3 hIm3
            rw [ef61] at bf61
            refine zw_C zr_0_310 (Or.inl rfl) zm_103 rfl rfl ⟨Nat.le_of_ble_eq_true rfl, Nat.le_of_ble_eq_true rfl, Nat.le_of_ble_eq_true rfl, rfl, by decide⟩ (by omega) (th_103 (d := d - 1) (by omega) hIm3 (a0 := x55) (a1 := x56) (a2 := 0) (g0 := f59) (g1 := f60) (g2 := f61)   ef59 ef60 ef61  (by omega) (by omega) (by omega) ) ?_
            rintro _ m62 ⟨r63, rfl, hr63a, hr63b, hIm62, gm62, po0_r63, po1_r63, po2_r63⟩
            have hFm62 : zFr W_0 m0 m62 := hFm3.trans gm62 rfl
            have km62_1_1 : m62 1 1 = f59 := (gm62 1 1 rfl).trans ef59
            show zW E (d) 0 313 [(6, 0), (2, 0), (2, 69), (0, i2)] [(0, r63)] m62 Q
            refine zw_115 zr_0_313 rfl ?_
            refine zw_7 zr_0_314 rfl ?_
            refine zw_7s zr_0_315 rfl ?_
            refine zw_3 zr_0_316 rfl ?_
            refine zw_push zr_0_317 ?_
            refine zw_16 zr_0_318 (by omega) ?_
            refine zw_100k zr_0_319 rfl (by omega) (by omega) ex55.symm ?_
            refine zw_7s zr_0_320 rfl ?_
            refine zw_3 zr_0_321 rfl ?_
            refine zw_push zr_0_322 ?_
            refine zw_16 zr_0_323 (by omega) ?_
            refine zw_100k zr_0_324 rfl (by omega) (by omega) ex56.symm ?_
            refine zw_7s zr_0_325 rfl ?_
            refine zw_3 zr_0_326 rfl ?_
            refine zw_push zr_0_327 ?_
            refine zw_16 zr_0_328 (by omega) ?_
            refine zw_100k zr_0_329 rfl (by omega) (by omega) ex57.symm ?_
            refine zw_40_1 zr_0_330 ?_ ?_
            · intro h64
              refine zw_push zr_0_337 ?_
              obtain ⟨f65, ef65⟩ : ∃ v, m62 70 823 = v := ⟨_, rfl⟩
              have bf65 : 0 ≤ m62 70 823 ∧ m62 70 823 ≤ 60 := ib_70_meetings hIm62 (by omega)
              rw [ef65] at bf65
              refine zw_C zr_0_338 (Or.inl rfl) zm_147 rfl rfl ⟨Nat.le_of_ble_eq_true rfl, Nat.le_of_ble_eq_true rfl, Nat.le_of_ble_eq_true rfl, rfl, by decide⟩ (by omega) (th_147 (d := d - 1) (by omega) hIm62 (a0 := x55) (a1 := x56) (a2 := 0) (g0 := f65)  (F70 := m62 70) ef65 rfl (by omega) (by omega) (by omega) ) ?_
              rintro _ m66 ⟨r67, rfl, hr67a, hr67b, hIm66, gm66, po0_r67, po1_r67⟩
              have hFm66 : zFr W_0 m0 m66 := hFm62.trans gm66 rfl
              have km66_1_1 : m66 1 1 = f59 := (gm66 1 1 rfl).trans km62_1_1
              show zW E (d) 0 341 [(6, 0), (2, 0), (2, 69), (0, i2)] [(0, r67)] m66 Q
              obtain ⟨hkz68, hrz68⟩ := zk_mark hIm3 hv0lp18_4 gm62 ef59 ef60 ef61 po0_r63 po1_r63 po2_r63 gm66 ef65 po0_r67 po1_r67
              refine zw_115 zr_0_341 rfl ?_
              refine zw_42 zr_0_342 ?_
              refine zw_15 (c := 6) (L' := [(6, 0), (2, 0), (2, 69), (0, (i2 + 6))]) zr_0_1239 rfl (by decide) (by omega) rfl ?_
              refine zw_42 zr_0_1242 ?_
              exact zw_less (L := [(6, 0), (2, 0), (2, 69), (0, (i2 + 6))]) ⟨Or.inr rfl, Or.inr rfl, Or.inr rfl, Or.inr rfl, trivial⟩ (ihlp18_4 ((i2 + 6)) m66 hIm66 hFm66   (by omega) (by omega) (by assumption) (by omega))
            · intro h70; omega
          · intro h71
            refine zw_push zr_0_305 ?_
            refine zw_42 zr_0_306 ?_
            obtain ⟨f72, ef72⟩ : ∃ v, m3 1 1 = v := ⟨_, rfl⟩
            have bf72 := ib_1_1 hIm3
            rw [ef72] at bf72
            obtain ⟨f73, ef73⟩ : ∃ v, m3 1 2 = v := ⟨_, rfl⟩
            have bf73 := ib_1_2 hIm3
            rw [ef73] at bf73
            obtain ⟨f74, ef74⟩ : ∃ v, m3 1 3 = v := ⟨_, rfl⟩
            have bf74 := ib_1_3 hIm3
            rw [ef74] at bf74
            refine zw_C zr_0_310 (Or.inl rfl) zm_103 rfl rfl ⟨Nat.le_of_ble_eq_true rfl, Nat.le_of_ble_eq_true rfl, Nat.le_of_ble_eq_true rfl, rfl, by decide⟩ (by omega) (th_103 (d := d - 1) (by omega) hIm3 (a0 := x55) (a1 := x56) (a2 := 1) (g0 := f72) (g1 := f73) (g2 := f74)   ef72 ef73 ef74  (by omega) (by omega) (by omega) ) ?_
            rintro _ m75 ⟨r76, rfl, hr76a, hr76b, hIm75, gm75, po0_r76, po1_r76, po2_r76⟩
            have hFm75 : zFr W_0 m0 m75 := hFm3.trans gm75 rfl
            have km75_1_1 : m75 1 1 = f72 := (gm75 1 1 rfl).trans ef72
            show zW E (d) 0 313 [(6, 0), (2, 0), (2, 69), (0, i2)] [(0, r76)] m75 Q
            refine zw_115 zr_0_313 rfl ?_
            refine zw_7 zr_0_314 rfl ?_
            refine zw_7s zr_0_315 rfl ?_
            refine zw_3 zr_0_316 rfl ?_
            refine zw_push zr_0_317 ?_
            refine zw_16 zr_0_318 (by omega) ?_
            refine zw_100k zr_0_319 rfl (by omega) (by omega) ex55.symm ?_
            refine zw_7s zr_0_320 rfl ?_
            refine zw_3 zr_0_321 rfl ?_
            refine zw_push zr_0_322 ?_
            refine zw_16 zr_0_323 (by omega) ?_
            refine zw_100k zr_0_324 rfl (by omega) (by omega) ex56.symm ?_
            refine zw_7s zr_0_325 rfl ?_
            refine zw_3 zr_0_326 rfl ?_
            refine zw_push zr_0_327 ?_
            refine zw_16 zr_0_328 (by omega) ?_
            refine zw_100k zr_0_329 rfl (by omega) (by omega) ex57.symm ?_
            refine zw_40_1 zr_0_330 ?_ ?_
            · intro h77; omega
            · intro h78
              refine zw_push zr_0_333 ?_
              refine zw_42 zr_0_334 ?_
              obtain ⟨f79, ef79⟩ : ∃ v, m75 70 823 = v := ⟨_, rfl⟩
              have bf79 : 0 ≤ m75 70 823 ∧ m75 70 823 ≤ 60 := ib_70_meetings hIm75 (by omega)
              rw [ef79] at bf79
              refine zw_C zr_0_338 (Or.inl rfl) zm_147 rfl rfl ⟨Nat.le_of_ble_eq_true rfl, Nat.le_of_ble_eq_true rfl, Nat.le_of_ble_eq_true rfl, rfl, by decide⟩ (by omega) (th_147 (d := d - 1) (by omega) hIm75 (a0 := x55) (a1 := x56) (a2 := 1) (g0 := f79)  (F70 := m75 70) ef79 rfl (by omega) (by omega) (by omega) ) ?_
              rintro _ m80 ⟨r81, rfl, hr81a, hr81b, hIm80, gm80, po0_r81, po1_r81⟩
              have hFm80 : zFr W_0 m0 m80 := hFm75.trans gm80 rfl
              have km80_1_1 : m80 1 1 = f72 := (gm80 1 1 rfl).trans km75_1_1
              show zW E (d) 0 341 [(6, 0), (2, 0), (2, 69), (0, i2)] [(0, r81)] m80 Q
              obtain ⟨hkz82, hrz82⟩ := zk_mark hIm3 hv0lp18_4 gm75 ef72 ef73 ef74 po0_r76 po1_r76 po2_r76 gm80 ef79 po0_r81 po1_r81
              refine zw_115 zr_0_341 rfl ?_
              refine zw_42 zr_0_342 ?_
              refine zw_15 (c := 6) (L' := [(6, 0), (2, 0), (2, 69), (0, (i2 + 6))]) zr_0_1239 rfl (by decide) (by omega) rfl ?_
              refine zw_42 zr_0_1242 ?_
              exact zw_less (L := [(6, 0), (2, 0), (2, 69), (0, (i2 + 6))]) ⟨Or.inr rfl, Or.inr rfl, Or.inr rfl, Or.inr rfl, trivial⟩ (ihlp18_4 ((i2 + 6)) m80 hIm80 hFm80   (by omega) (by omega) (by assumption) (by omega))
        by_cases h84 : x9 = 3
        · refine zw_111 (t := 345) zr_0_33 (by rw [h84]; rfl) ?_
          refine zw_7 zr_0_345 rfl ?_
          refine zw_7s zr_0_346 rfl ?_
          refine zw_3 zr_0_347 rfl ?_
          refine zw_push zr_0_348 ?_
          refine zw_16 zr_0_349 (by omega) ?_
          refine zw_100 zr_0_350 rfl (by omega) (by omega) ?_
          intro x85 ex85 hx85a hx85b
          refine zw_7s zr_0_351 rfl ?_
          refine zw_3 zr_0_352 rfl ?_
          refine zw_push zr_0_353 ?_
          refine zw_16 zr_0_354 (by omega) ?_
          refine zw_100 zr_0_355 rfl (by omega) (by omega) ?_
          intro x86 ex86 hx86a hx86b
          refine zw_C zr_0_356 (Or.inl rfl) zm_105 rfl rfl ⟨Nat.le_of_ble_eq_true rfl, Nat.le_of_ble_eq_true rfl, Nat.le_of_ble_eq_true rfl, rfl, by decide⟩ (by omega) (th_105 (d := d - 1) (by omega) hIm3 (a0 := x85) (a1 := x86)   (F9 := m3 9)  rfl (by omega) (by omega) ) ?_
          rintro _ m87 ⟨r88, rfl, hr88a, hr88b, hIm87, gm87, po0_r88, po1_r88⟩
          have hFm87 : zFr W_0 m0 m87 := hFm3.trans gm87 rfl
          show zW E (d) 0 359 [(6, 0), (2, 0), (2, 69), (0, i2)] [(0, r88)] m87 Q
          refine zw_115 zr_0_359 rfl ?_
          refine zw_7 zr_0_360 rfl ?_
          refine zw_7s zr_0_361 rfl ?_
          refine zw_3 zr_0_362 rfl ?_
          refine zw_push zr_0_363 ?_
          refine zw_16 zr_0_364 (by omega) ?_
          refine zw_100k zr_0_365 rfl (by omega) (by omega) ex85.symm ?_
          refine zw_7s zr_0_366 rfl ?_
          refine zw_3 zr_0_367 rfl ?_
          refine zw_push zr_0_368 ?_
          refine zw_16 zr_0_369 (by omega) ?_
          refine zw_100k zr_0_370 rfl (by omega) (by omega) ex86.symm ?_
          refine zw_C zr_0_371 (Or.inl rfl) zm_149 rfl rfl ⟨Nat.le_of_ble_eq_true rfl, Nat.le_of_ble_eq_true rfl, Nat.le_of_ble_eq_true rfl, rfl, by decide⟩ (by omega) (th_149 (d := d - 1) (by omega) hIm87 (a0 := x85) (a1 := x86)   (F70 := m87 70)  rfl (by omega) (by omega) ) ?_
          rintro _ m89 ⟨r90, rfl, hr90a, hr90b, hIm89, gm89, po0_r90, po1_r90⟩
          have hFm89 : zFr W_0 m0 m89 := hFm87.trans gm89 rfl
          show zW E (d) 0 374 [(6, 0), (2, 0), (2, 69), (0, i2)] [(0, r90)] m89 Q
          obtain ⟨hkz91, hrz91⟩ := zk_first hIm3 hv0lp18_4 gm87 po0_r88 po1_r88 gm89 po0_r90 po1_r90
          refine zw_115 zr_0_374 rfl ?_
          refine zw_42 zr_0_375 ?_
          refine zw_15 (c := 6) (L' := [(6, 0), (2, 0), (2, 69), (0, (i2 + 6))]) zr_0_1239 rfl (by decide) (by omega) rfl ?_
          refine zw_42 zr_0_1242 ?_
          exact zw_less (L := [(6, 0), (2, 0), (2, 69), (0, (i2 + 6))]) ⟨Or.inr rfl, Or.inr rfl, Or.inr rfl, Or.inr rfl, trivial⟩ (ihlp18_4 ((i2 + 6)) m89 hIm89 hFm89   (by omega) (by omega) (by assumption) (by omega))
        by_cases h93 : x9 = 4
        · refine zw_111 (t := 378) zr_0_33 (by rw [h93]; rfl) ?_
          refine zw_7 zr_0_378 rfl ?_
          refine zw_7s zr_0_379 rfl ?_
          refine zw_3 zr_0_380 rfl ?_
          refine zw_push zr_0_381 ?_
          refine zw_16 zr_0_382 (by omega) ?_
          refine zw_100 zr_0_383 rfl (by omega) (by omega) ?_
          intro x94 ex94 hx94a hx94b
          refine zw_7s zr_0_384 rfl ?_
          refine zw_3 zr_0_385 rfl ?_
          refine zw_push zr_0_386 ?_
          refine zw_16 zr_0_387 (by omega) ?_
          refine zw_100 zr_0_388 rfl (by omega) (by omega) ?_
          intro x95 ex95 hx95a hx95b
          refine zw_C zr_0_389 (Or.inl rfl) zm_106 rfl rfl ⟨Nat.le_of_ble_eq_true rfl, Nat.le_of_ble_eq_true rfl, Nat.le_of_ble_eq_true rfl, rfl, by decide⟩ (by omega) (th_106 (d := d - 1) (by omega) hIm3 (a0 := x94) (a1 := x95)   (F10 := m3 10) (F11 := m3 11)  rfl rfl (by omega) (by omega) ) ?_
          rintro _ m96 ⟨r97, rfl, hr97a, hr97b, hIm96, gm96, po0_r97, po1_r97, po2_r97⟩
          have hFm96 : zFr W_0 m0 m96 := hFm3.trans gm96 rfl
          show zW E (d) 0 392 [(6, 0), (2, 0), (2, 69), (0, i2)] [(0, r97)] m96 Q
          refine zw_115 zr_0_392 rfl ?_
          refine zw_7 zr_0_393 rfl ?_
          refine zw_7s zr_0_394 rfl ?_
          refine zw_3 zr_0_395 rfl ?_
          refine zw_push zr_0_396 ?_
          refine zw_16 zr_0_397 (by omega) ?_
          refine zw_100k zr_0_398 rfl (by omega) (by omega) ex94.symm ?_
          refine zw_7s zr_0_399 rfl ?_
          refine zw_3 zr_0_400 rfl ?_
          refine zw_push zr_0_401 ?_
          refine zw_16 zr_0_402 (by omega) ?_
          refine zw_100k zr_0_403 rfl (by omega) (by omega) ex95.symm ?_
          refine zw_C zr_0_404 (Or.inl rfl) zm_150 rfl rfl ⟨Nat.le_of_ble_eq_true rfl, Nat.le_of_ble_eq_true rfl, Nat.le_of_ble_eq_true rfl, rfl, by decide⟩ (by omega) (th_150 (d := d - 1) (by omega) hIm96 (a0 := x94) (a1 := x95)   (F70 := m96 70)  rfl (by omega) (by omega) ) ?_
          rintro _ m98 ⟨r99, rfl, hr99a, hr99b, hIm98, gm98, po0_r99, po1_r99⟩
          have hFm98 : zFr W_0 m0 m98 := hFm96.trans gm98 rfl
          show zW E (d) 0 407 [(6, 0), (2, 0), (2, 69), (0, i2)] [(0, r99)] m98 Q
          obtain ⟨hkz100, hrz100⟩ := zk_write hIm3 hv0lp18_4 gm96 po0_r97 po1_r97 po2_r97 gm98 po0_r99 po1_r99
          refine zw_115 zr_0_407 rfl ?_
          refine zw_42 zr_0_408 ?_
          refine zw_15 (c := 6) (L' := [(6, 0), (2, 0), (2, 69), (0, (i2 + 6))]) zr_0_1239 rfl (by decide) (by omega) rfl ?_
          refine zw_42 zr_0_1242 ?_
          exact zw_less (L := [(6, 0), (2, 0), (2, 69), (0, (i2 + 6))]) ⟨Or.inr rfl, Or.inr rfl, Or.inr rfl, Or.inr rfl, trivial⟩ (ihlp18_4 ((i2 + 6)) m98 hIm98 hFm98   (by omega) (by omega) (by assumption) (by omega))
        by_cases h102 : x9 = 5
        · refine zw_111 (t := 411) zr_0_33 (by rw [h102]; rfl) ?_
          refine zw_7 zr_0_411 rfl ?_
          refine zw_7s zr_0_412 rfl ?_
          refine zw_3 zr_0_413 rfl ?_
          refine zw_push zr_0_414 ?_
          refine zw_16 zr_0_415 (by omega) ?_
          refine zw_100 zr_0_416 rfl (by omega) (by omega) ?_
          intro x103 ex103 hx103a hx103b
          refine zw_C zr_0_417 (Or.inl rfl) zm_107 rfl rfl ⟨Nat.le_of_ble_eq_true rfl, Nat.le_of_ble_eq_true rfl, Nat.le_of_ble_eq_true rfl, rfl, by decide⟩ (by omega) (th_107 (d := d - 1) (by omega) hIm3 (a0 := x103)   (F10 := m3 10)  rfl (by omega) ) ?_
          rintro _ m104 ⟨r105, rfl, hr105a, hr105b, hIm104, gm104, po0_r105, po1_r105⟩
          have hFm104 : zFr W_0 m0 m104 := hFm3.trans gm104 rfl
          show zW E (d) 0 420 [(6, 0), (2, 0), (2, 69), (0, i2)] [(0, r105)] m104 Q
          refine zw_115 zr_0_420 rfl ?_
          refine zw_7 zr_0_421 rfl ?_
          refine zw_7s zr_0_422 rfl ?_
          refine zw_3 zr_0_423 rfl ?_
          refine zw_push zr_0_424 ?_
          refine zw_16 zr_0_425 (by omega) ?_
          refine zw_100k zr_0_426 rfl (by omega) (by omega) ex103.symm ?_
          refine zw_C zr_0_427 (Or.inl rfl) zm_151 rfl rfl ⟨Nat.le_of_ble_eq_true rfl, Nat.le_of_ble_eq_true rfl, Nat.le_of_ble_eq_true rfl, rfl, by decide⟩ (by omega) (th_151 (d := d - 1) (by omega) hIm104 (a0 := x103)   (F70 := m104 70)  rfl (by omega) ) ?_
          rintro _ m106 ⟨r107, rfl, hr107a, hr107b, hIm106, gm106, po0_r107, po1_r107⟩
          have hFm106 : zFr W_0 m0 m106 := hFm104.trans gm106 rfl
          show zW E (d) 0 430 [(6, 0), (2, 0), (2, 69), (0, i2)] [(0, r107)] m106 Q
          obtain ⟨hkz108, hrz108⟩ := zk_erase hIm3 hv0lp18_4 gm104 po0_r105 po1_r105 gm106 po0_r107 po1_r107
          refine zw_115 zr_0_430 rfl ?_
          refine zw_42 zr_0_431 ?_
          refine zw_15 (c := 6) (L' := [(6, 0), (2, 0), (2, 69), (0, (i2 + 6))]) zr_0_1239 rfl (by decide) (by omega) rfl ?_
          refine zw_42 zr_0_1242 ?_
          exact zw_less (L := [(6, 0), (2, 0), (2, 69), (0, (i2 + 6))]) ⟨Or.inr rfl, Or.inr rfl, Or.inr rfl, Or.inr rfl, trivial⟩ (ihlp18_4 ((i2 + 6)) m106 hIm106 hFm106   (by omega) (by omega) (by assumption) (by omega))
        by_cases h110 : x9 = 6
        · refine zw_111 (t := 434) zr_0_33 (by rw [h110]; rfl) ?_
          refine zw_7 zr_0_434 rfl ?_
          refine zw_7s zr_0_435 rfl ?_
          refine zw_3 zr_0_436 rfl ?_
          refine zw_push zr_0_437 ?_
          refine zw_16 zr_0_438 (by omega) ?_
          refine zw_100 zr_0_439 rfl (by omega) (by omega) ?_
          intro x111 ex111 hx111a hx111b
          refine zw_C zr_0_440 (Or.inl rfl) zm_108 rfl rfl ⟨Nat.le_of_ble_eq_true rfl, Nat.le_of_ble_eq_true rfl, Nat.le_of_ble_eq_true rfl, rfl, by decide⟩ (by omega) (th_108 (d := d - 1) (by omega) hIm3 (a0 := x111)      (by omega) ) ?_
          rintro _ m112 ⟨r113, rfl, hr113a, hr113b, hIm112, gm112⟩
          have hFm112 : zFr W_0 m0 m112 := hFm3.trans gm112 rfl
          show zW E (d) 0 443 [(6, 0), (2, 0), (2, 69), (0, i2)] [(0, r113)] m112 Q
          refine zw_115 zr_0_443 rfl ?_
          refine zw_7 zr_0_444 rfl ?_
          refine zw_7s zr_0_445 rfl ?_
          refine zw_3 zr_0_446 rfl ?_
          refine zw_push zr_0_447 ?_
          refine zw_16 zr_0_448 (by omega) ?_
          refine zw_100k zr_0_449 rfl (by omega) (by omega) ex111.symm ?_
          refine zw_C zr_0_450 (Or.inl rfl) zm_163 rfl rfl ⟨Nat.le_of_ble_eq_true rfl, Nat.le_of_ble_eq_true rfl, Nat.le_of_ble_eq_true rfl, rfl, by decide⟩ (by omega) (th_163 (d := d - 1) (by omega) hIm112 (a0 := x111)      (by omega) ) ?_
          rintro _ m114 ⟨r115, rfl, hr115a, hr115b, hIm114, gm114⟩
          have hFm114 : zFr W_0 m0 m114 := hFm112.trans gm114 rfl
          show zW E (d) 0 453 [(6, 0), (2, 0), (2, 69), (0, i2)] [(0, r115)] m114 Q
          have hkz116_0 := zk_fr hv0lp18_4 gm112
          have hkz116_1 := zk_fr hkz116_0 gm114
          refine zw_115 zr_0_453 rfl ?_
          refine zw_42 zr_0_454 ?_
          refine zw_15 (c := 6) (L' := [(6, 0), (2, 0), (2, 69), (0, (i2 + 6))]) zr_0_1239 rfl (by decide) (by omega) rfl ?_
          refine zw_42 zr_0_1242 ?_
          exact zw_less (L := [(6, 0), (2, 0), (2, 69), (0, (i2 + 6))]) ⟨Or.inr rfl, Or.inr rfl, Or.inr rfl, Or.inr rfl, trivial⟩ (ihlp18_4 ((i2 + 6)) m114 hIm114 hFm114   (by omega) (by omega) (by assumption) (by omega))
        by_cases h118 : x9 = 7
        · refine zw_111 (t := 457) zr_0_33 (by rw [h118]; rfl) ?_
          refine zw_7 zr_0_457 rfl ?_
          refine zw_7s zr_0_458 rfl ?_
          refine zw_3 zr_0_459 rfl ?_
          refine zw_push zr_0_460 ?_
          refine zw_16 zr_0_461 (by omega) ?_
          refine zw_100 zr_0_462 rfl (by omega) (by omega) ?_
          intro x119 ex119 hx119a hx119b
          refine zw_7s zr_0_463 rfl ?_
          refine zw_3 zr_0_464 rfl ?_
          refine zw_push zr_0_465 ?_
          refine zw_16 zr_0_466 (by omega) ?_
          refine zw_100 zr_0_467 rfl (by omega) (by omega) ?_
          intro x120 ex120 hx120a hx120b
          refine zw_7s zr_0_468 rfl ?_
          refine zw_3 zr_0_469 rfl ?_
          refine zw_push zr_0_470 ?_
          refine zw_16 zr_0_471 (by omega) ?_
          refine zw_100 zr_0_472 rfl (by omega) (by omega) ?_
          intro x121 ex121 hx121a hx121b
          refine zw_C zr_0_473 (Or.inl rfl) zm_109 rfl rfl ⟨Nat.le_of_ble_eq_true rfl, Nat.le_of_ble_eq_true rfl, Nat.le_of_ble_eq_true rfl, rfl, by decide⟩ (by omega) (th_109 (d := d - 1) (by omega) hIm3 (a0 := x119) (a1 := x120) (a2 := x121)      (by omega) (by omega) (by omega) ) ?_
          rintro _ m122 ⟨r123, rfl, hr123a, hr123b, hIm122, gm122⟩
          have hFm122 : zFr W_0 m0 m122 := hFm3.trans gm122 rfl
          show zW E (d) 0 476 [(6, 0), (2, 0), (2, 69), (0, i2)] [(0, r123)] m122 Q
          refine zw_115 zr_0_476 rfl ?_
          refine zw_7 zr_0_477 rfl ?_
          refine zw_7s zr_0_478 rfl ?_
          refine zw_3 zr_0_479 rfl ?_
          refine zw_push zr_0_480 ?_
          refine zw_16 zr_0_481 (by omega) ?_
          refine zw_100k zr_0_482 rfl (by omega) (by omega) ex119.symm ?_
          refine zw_7s zr_0_483 rfl ?_
          refine zw_3 zr_0_484 rfl ?_
          refine zw_push zr_0_485 ?_
          refine zw_16 zr_0_486 (by omega) ?_
          refine zw_100k zr_0_487 rfl (by omega) (by omega) ex120.symm ?_
          refine zw_7s zr_0_488 rfl ?_
          refine zw_3 zr_0_489 rfl ?_
          refine zw_push zr_0_490 ?_
          refine zw_16 zr_0_491 (by omega) ?_
          refine zw_100k zr_0_492 rfl (by omega) (by omega) ex121.symm ?_
          refine zw_C zr_0_493 (Or.inl rfl) zm_168 rfl rfl ⟨Nat.le_of_ble_eq_true rfl, Nat.le_of_ble_eq_true rfl, Nat.le_of_ble_eq_true rfl, rfl, by decide⟩ (by omega) (th_168 (d := d - 1) (by omega) hIm122 (a0 := x119) (a1 := x120) (a2 := x121)      (by omega) (by omega) (by omega) ) ?_
          rintro _ m124 ⟨r125, rfl, hr125a, hr125b, hIm124, gm124⟩
          have hFm124 : zFr W_0 m0 m124 := hFm122.trans gm124 rfl
          show zW E (d) 0 496 [(6, 0), (2, 0), (2, 69), (0, i2)] [(0, r125)] m124 Q
          have hkz126_0 := zk_fr hv0lp18_4 gm122
          have hkz126_1 := zk_fr hkz126_0 gm124
          refine zw_115 zr_0_496 rfl ?_
          refine zw_42 zr_0_497 ?_
          refine zw_15 (c := 6) (L' := [(6, 0), (2, 0), (2, 69), (0, (i2 + 6))]) zr_0_1239 rfl (by decide) (by omega) rfl ?_
          refine zw_42 zr_0_1242 ?_
          exact zw_less (L := [(6, 0), (2, 0), (2, 69), (0, (i2 + 6))]) ⟨Or.inr rfl, Or.inr rfl, Or.inr rfl, Or.inr rfl, trivial⟩ (ihlp18_4 ((i2 + 6)) m124 hIm124 hFm124   (by omega) (by omega) (by assumption) (by omega))
        by_cases h128 : x9 = 8
        · refine zw_111 (t := 500) zr_0_33 (by rw [h128]; rfl) ?_
          refine zw_7 zr_0_500 rfl ?_
          refine zw_7s zr_0_501 rfl ?_
          refine zw_3 zr_0_502 rfl ?_
          refine zw_push zr_0_503 ?_
          refine zw_16 zr_0_504 (by omega) ?_
          refine zw_100 zr_0_505 rfl (by omega) (by omega) ?_
          intro x129 ex129 hx129a hx129b
          refine zw_7s zr_0_506 rfl ?_
          refine zw_3 zr_0_507 rfl ?_
          refine zw_push zr_0_508 ?_
          refine zw_16 zr_0_509 (by omega) ?_
          refine zw_100 zr_0_510 rfl (by omega) (by omega) ?_
          intro x130 ex130 hx130a hx130b
          refine zw_C zr_0_511 (Or.inl rfl) zm_110 rfl rfl ⟨Nat.le_of_ble_eq_true rfl, Nat.le_of_ble_eq_true rfl, Nat.le_of_ble_eq_true rfl, rfl, by decide⟩ (by omega) (th_110 (d := d - 1) (by omega) hIm3 (a0 := x129) (a1 := x130)      (by omega) (by omega) ) ?_
          rintro _ m131 ⟨r132, rfl, hr132a, hr132b, hIm131, gm131⟩
          have hFm131 : zFr W_0 m0 m131 := hFm3.trans gm131 rfl
          show zW E (d) 0 514 [(6, 0), (2, 0), (2, 69), (0, i2)] [(0, r132)] m131 Q
          refine zw_115 zr_0_514 rfl ?_
          refine zw_7 zr_0_515 rfl ?_
          refine zw_7s zr_0_516 rfl ?_
          refine zw_3 zr_0_517 rfl ?_
          refine zw_push zr_0_518 ?_
          refine zw_16 zr_0_519 (by omega) ?_
          refine zw_100k zr_0_520 rfl (by omega) (by omega) ex129.symm ?_
          refine zw_7s zr_0_521 rfl ?_
          refine zw_3 zr_0_522 rfl ?_
          refine zw_push zr_0_523 ?_
          refine zw_16 zr_0_524 (by omega) ?_
          refine zw_100k zr_0_525 rfl (by omega) (by omega) ex130.symm ?_
          refine zw_C zr_0_526 (Or.inl rfl) zm_170 rfl rfl ⟨Nat.le_of_ble_eq_true rfl, Nat.le_of_ble_eq_true rfl, Nat.le_of_ble_eq_true rfl, rfl, by decide⟩ (by omega) (th_170 (d := d - 1) (by omega) hIm131 (a0 := x129) (a1 := x130)      (by omega) (by omega) ) ?_
          rintro _ m133 ⟨r134, rfl, hr134a, hr134b, hIm133, gm133⟩
          have hFm133 : zFr W_0 m0 m133 := hFm131.trans gm133 rfl
          show zW E (d) 0 529 [(6, 0), (2, 0), (2, 69), (0, i2)] [(0, r134)] m133 Q
          have hkz135_0 := zk_fr hv0lp18_4 gm131
          have hkz135_1 := zk_fr hkz135_0 gm133
          refine zw_115 zr_0_529 rfl ?_
          refine zw_42 zr_0_530 ?_
          refine zw_15 (c := 6) (L' := [(6, 0), (2, 0), (2, 69), (0, (i2 + 6))]) zr_0_1239 rfl (by decide) (by omega) rfl ?_
          refine zw_42 zr_0_1242 ?_
          exact zw_less (L := [(6, 0), (2, 0), (2, 69), (0, (i2 + 6))]) ⟨Or.inr rfl, Or.inr rfl, Or.inr rfl, Or.inr rfl, trivial⟩ (ihlp18_4 ((i2 + 6)) m133 hIm133 hFm133   (by omega) (by omega) (by assumption) (by omega))
        by_cases h137 : x9 = 9
        · refine zw_111 (t := 533) zr_0_33 (by rw [h137]; rfl) ?_
          refine zw_7 zr_0_533 rfl ?_
          refine zw_7s zr_0_534 rfl ?_
          refine zw_3 zr_0_535 rfl ?_
          refine zw_push zr_0_536 ?_
          refine zw_16 zr_0_537 (by omega) ?_
          refine zw_100 zr_0_538 rfl (by omega) (by omega) ?_
          intro x138 ex138 hx138a hx138b
          refine zw_7s zr_0_539 rfl ?_
          refine zw_3 zr_0_540 rfl ?_
          refine zw_push zr_0_541 ?_
          refine zw_16 zr_0_542 (by omega) ?_
          refine zw_100 zr_0_543 rfl (by omega) (by omega) ?_
          intro x139 ex139 hx139a hx139b
          refine zw_7s zr_0_544 rfl ?_
          refine zw_3 zr_0_545 rfl ?_
          refine zw_push zr_0_546 ?_
          refine zw_16 zr_0_547 (by omega) ?_
          refine zw_100 zr_0_548 rfl (by omega) (by omega) ?_
          intro x140 ex140 hx140a hx140b
          refine zw_C zr_0_549 (Or.inl rfl) zm_111 rfl rfl ⟨Nat.le_of_ble_eq_true rfl, Nat.le_of_ble_eq_true rfl, Nat.le_of_ble_eq_true rfl, rfl, by decide⟩ (by omega) (th_111 (d := d - 1) (by omega) hIm3 (a0 := x138) (a1 := x139) (a2 := x140)      (by omega) (by omega) (by omega) ) ?_
          rintro _ m141 ⟨r142, rfl, hr142a, hr142b, hIm141, gm141⟩
          have hFm141 : zFr W_0 m0 m141 := hFm3.trans gm141 rfl
          show zW E (d) 0 552 [(6, 0), (2, 0), (2, 69), (0, i2)] [(0, r142)] m141 Q
          refine zw_115 zr_0_552 rfl ?_
          refine zw_7 zr_0_553 rfl ?_
          refine zw_7s zr_0_554 rfl ?_
          refine zw_3 zr_0_555 rfl ?_
          refine zw_push zr_0_556 ?_
          refine zw_16 zr_0_557 (by omega) ?_
          refine zw_100k zr_0_558 rfl (by omega) (by omega) ex138.symm ?_
          refine zw_7s zr_0_559 rfl ?_
          refine zw_3 zr_0_560 rfl ?_
          refine zw_push zr_0_561 ?_
          refine zw_16 zr_0_562 (by omega) ?_
          refine zw_100k zr_0_563 rfl (by omega) (by omega) ex139.symm ?_
          refine zw_7s zr_0_564 rfl ?_
          refine zw_3 zr_0_565 rfl ?_
          refine zw_push zr_0_566 ?_
          refine zw_16 zr_0_567 (by omega) ?_
          refine zw_100k zr_0_568 rfl (by omega) (by omega) ex140.symm ?_
          refine zw_C zr_0_569 (Or.inl rfl) zm_174 rfl rfl ⟨Nat.le_of_ble_eq_true rfl, Nat.le_of_ble_eq_true rfl, Nat.le_of_ble_eq_true rfl, rfl, by decide⟩ (by omega) (th_174 (d := d - 1) (by omega) hIm141 (a0 := x138) (a1 := x139) (a2 := x140)      (by omega) (by omega) (by omega) ) ?_
          rintro _ m143 ⟨r144, rfl, hr144a, hr144b, hIm143, gm143⟩
          have hFm143 : zFr W_0 m0 m143 := hFm141.trans gm143 rfl
          show zW E (d) 0 572 [(6, 0), (2, 0), (2, 69), (0, i2)] [(0, r144)] m143 Q
          have hkz145_0 := zk_fr hv0lp18_4 gm141
          have hkz145_1 := zk_fr hkz145_0 gm143
          refine zw_115 zr_0_572 rfl ?_
          refine zw_42 zr_0_573 ?_
          refine zw_15 (c := 6) (L' := [(6, 0), (2, 0), (2, 69), (0, (i2 + 6))]) zr_0_1239 rfl (by decide) (by omega) rfl ?_
          refine zw_42 zr_0_1242 ?_
          exact zw_less (L := [(6, 0), (2, 0), (2, 69), (0, (i2 + 6))]) ⟨Or.inr rfl, Or.inr rfl, Or.inr rfl, Or.inr rfl, trivial⟩ (ihlp18_4 ((i2 + 6)) m143 hIm143 hFm143   (by omega) (by omega) (by assumption) (by omega))
        by_cases h147 : x9 = 10
        · refine zw_111 (t := 576) zr_0_33 (by rw [h147]; rfl) ?_
          refine zw_7 zr_0_576 rfl ?_
          refine zw_7s zr_0_577 rfl ?_
          refine zw_3 zr_0_578 rfl ?_
          refine zw_push zr_0_579 ?_
          refine zw_16 zr_0_580 (by omega) ?_
          refine zw_100 zr_0_581 rfl (by omega) (by omega) ?_
          intro x148 ex148 hx148a hx148b
          refine zw_7s zr_0_582 rfl ?_
          refine zw_3 zr_0_583 rfl ?_
          refine zw_push zr_0_584 ?_
          refine zw_16 zr_0_585 (by omega) ?_
          refine zw_100 zr_0_586 rfl (by omega) (by omega) ?_
          intro x149 ex149 hx149a hx149b
          refine zw_7s zr_0_587 rfl ?_
          refine zw_3 zr_0_588 rfl ?_
          refine zw_push zr_0_589 ?_
          refine zw_16 zr_0_590 (by omega) ?_
          refine zw_100 zr_0_591 rfl (by omega) (by omega) ?_
          intro x150 ex150 hx150a hx150b
          refine zw_C zr_0_592 (Or.inl rfl) zm_112 rfl rfl ⟨Nat.le_of_ble_eq_true rfl, Nat.le_of_ble_eq_true rfl, Nat.le_of_ble_eq_true rfl, rfl, by decide⟩ (by omega) (th_112 (d := d - 1) (by omega) hIm3 (a0 := x148) (a1 := x149) (a2 := x150)      (by omega) (by omega) (by omega) ) ?_
          rintro _ m151 ⟨r152, rfl, hr152a, hr152b, hIm151, gm151⟩
          have hFm151 : zFr W_0 m0 m151 := hFm3.trans gm151 rfl
          show zW E (d) 0 595 [(6, 0), (2, 0), (2, 69), (0, i2)] [(0, r152)] m151 Q
          refine zw_115 zr_0_595 rfl ?_
          refine zw_7 zr_0_596 rfl ?_
          refine zw_7s zr_0_597 rfl ?_
          refine zw_3 zr_0_598 rfl ?_
          refine zw_push zr_0_599 ?_
          refine zw_16 zr_0_600 (by omega) ?_
          refine zw_100k zr_0_601 rfl (by omega) (by omega) ex148.symm ?_
          refine zw_7s zr_0_602 rfl ?_
          refine zw_3 zr_0_603 rfl ?_
          refine zw_push zr_0_604 ?_
          refine zw_16 zr_0_605 (by omega) ?_
          refine zw_100k zr_0_606 rfl (by omega) (by omega) ex149.symm ?_
          refine zw_7s zr_0_607 rfl ?_
          refine zw_3 zr_0_608 rfl ?_
          refine zw_push zr_0_609 ?_
          refine zw_16 zr_0_610 (by omega) ?_
          refine zw_100k zr_0_611 rfl (by omega) (by omega) ex150.symm ?_
          refine zw_C zr_0_612 (Or.inl rfl) zm_175 rfl rfl ⟨Nat.le_of_ble_eq_true rfl, Nat.le_of_ble_eq_true rfl, Nat.le_of_ble_eq_true rfl, rfl, by decide⟩ (by omega) (th_175 (d := d - 1) (by omega) hIm151 (a0 := x148) (a1 := x149) (a2 := x150)      (by omega) (by omega) (by omega) ) ?_
          rintro _ m153 ⟨r154, rfl, hr154a, hr154b, hIm153, gm153⟩
          have hFm153 : zFr W_0 m0 m153 := hFm151.trans gm153 rfl
          show zW E (d) 0 615 [(6, 0), (2, 0), (2, 69), (0, i2)] [(0, r154)] m153 Q
          have hkz155_0 := zk_fr hv0lp18_4 gm151
          have hkz155_1 := zk_fr hkz155_0 gm153
          refine zw_115 zr_0_615 rfl ?_
          refine zw_42 zr_0_616 ?_
          refine zw_15 (c := 6) (L' := [(6, 0), (2, 0), (2, 69), (0, (i2 + 6))]) zr_0_1239 rfl (by decide) (by omega) rfl ?_
          refine zw_42 zr_0_1242 ?_
          exact zw_less (L := [(6, 0), (2, 0), (2, 69), (0, (i2 + 6))]) ⟨Or.inr rfl, Or.inr rfl, Or.inr rfl, Or.inr rfl, trivial⟩ (ihlp18_4 ((i2 + 6)) m153 hIm153 hFm153   (by omega) (by omega) (by assumption) (by omega))
        by_cases h157 : x9 = 11
        · refine zw_111 (t := 619) zr_0_33 (by rw [h157]; rfl) ?_
          refine zw_7 zr_0_619 rfl ?_
          refine zw_7s zr_0_620 rfl ?_
          refine zw_3 zr_0_621 rfl ?_
          refine zw_push zr_0_622 ?_
          refine zw_16 zr_0_623 (by omega) ?_
          refine zw_100 zr_0_624 rfl (by omega) (by omega) ?_
          intro x158 ex158 hx158a hx158b
          refine zw_C zr_0_625 (Or.inl rfl) zm_113 rfl rfl ⟨Nat.le_of_ble_eq_true rfl, Nat.le_of_ble_eq_true rfl, Nat.le_of_ble_eq_true rfl, rfl, by decide⟩ (by omega) (th_113 (d := d - 1) (by omega) hIm3 (a0 := x158)      (by omega) ) ?_
          rintro _ m159 ⟨r160, rfl, hr160a, hr160b, hIm159, gm159⟩
          have hFm159 : zFr W_0 m0 m159 := hFm3.trans gm159 rfl
          show zW E (d) 0 628 [(6, 0), (2, 0), (2, 69), (0, i2)] [(0, r160)] m159 Q
          refine zw_115 zr_0_628 rfl ?_
          refine zw_7 zr_0_629 rfl ?_
          refine zw_7s zr_0_630 rfl ?_
          refine zw_3 zr_0_631 rfl ?_
          refine zw_push zr_0_632 ?_
          refine zw_16 zr_0_633 (by omega) ?_
          refine zw_100k zr_0_634 rfl (by omega) (by omega) ex158.symm ?_
          refine zw_C zr_0_635 (Or.inl rfl) zm_177 rfl rfl ⟨Nat.le_of_ble_eq_true rfl, Nat.le_of_ble_eq_true rfl, Nat.le_of_ble_eq_true rfl, rfl, by decide⟩ (by omega) (th_177 (d := d - 1) (by omega) hIm159 (a0 := x158)      (by omega) ) ?_
          rintro _ m161 ⟨r162, rfl, hr162a, hr162b, hIm161, gm161⟩
          have hFm161 : zFr W_0 m0 m161 := hFm159.trans gm161 rfl
          show zW E (d) 0 638 [(6, 0), (2, 0), (2, 69), (0, i2)] [(0, r162)] m161 Q
          have hkz163_0 := zk_fr hv0lp18_4 gm159
          have hkz163_1 := zk_fr hkz163_0 gm161
          refine zw_115 zr_0_638 rfl ?_
          refine zw_42 zr_0_639 ?_
          refine zw_15 (c := 6) (L' := [(6, 0), (2, 0), (2, 69), (0, (i2 + 6))]) zr_0_1239 rfl (by decide) (by omega) rfl ?_
          refine zw_42 zr_0_1242 ?_
          exact zw_less (L := [(6, 0), (2, 0), (2, 69), (0, (i2 + 6))]) ⟨Or.inr rfl, Or.inr rfl, Or.inr rfl, Or.inr rfl, trivial⟩ (ihlp18_4 ((i2 + 6)) m161 hIm161 hFm161   (by omega) (by omega) (by assumption) (by omega))
        by_cases h165 : x9 = 12
        · refine zw_111 (t := 642) zr_0_33 (by rw [h165]; rfl) ?_
          refine zw_7 zr_0_642 rfl ?_
          refine zw_C zr_0_643 (Or.inl rfl) zm_114 rfl rfl ⟨Nat.le_of_ble_eq_true rfl, Nat.le_of_ble_eq_true rfl, Nat.le_of_ble_eq_true rfl, rfl, by decide⟩ (by omega) (th_114 (d := d - 1) (by omega) hIm3        ) ?_
          rintro _ m166 ⟨r167, rfl, hr167a, hr167b, hIm166, gm166⟩
          have hFm166 : zFr W_0 m0 m166 := hFm3.trans gm166 rfl
          show zW E (d) 0 646 [(6, 0), (2, 0), (2, 69), (0, i2)] [(0, r167)] m166 Q
          refine zw_115 zr_0_646 rfl ?_
          refine zw_7 zr_0_647 rfl ?_
          refine zw_C zr_0_648 (Or.inl rfl) zm_178 rfl rfl ⟨Nat.le_of_ble_eq_true rfl, Nat.le_of_ble_eq_true rfl, Nat.le_of_ble_eq_true rfl, rfl, by decide⟩ (by omega) (th_178 (d := d - 1) (by omega) hIm166        ) ?_
          rintro _ m168 ⟨r169, rfl, hr169a, hr169b, hIm168, gm168⟩
          have hFm168 : zFr W_0 m0 m168 := hFm166.trans gm168 rfl
          show zW E (d) 0 651 [(6, 0), (2, 0), (2, 69), (0, i2)] [(0, r169)] m168 Q
          have hkz170_0 := zk_fr hv0lp18_4 gm166
          have hkz170_1 := zk_fr hkz170_0 gm168
          refine zw_115 zr_0_651 rfl ?_
          refine zw_42 zr_0_652 ?_
          refine zw_15 (c := 6) (L' := [(6, 0), (2, 0), (2, 69), (0, (i2 + 6))]) zr_0_1239 rfl (by decide) (by omega) rfl ?_
          refine zw_42 zr_0_1242 ?_
          exact zw_less (L := [(6, 0), (2, 0), (2, 69), (0, (i2 + 6))]) ⟨Or.inr rfl, Or.inr rfl, Or.inr rfl, Or.inr rfl, trivial⟩ (ihlp18_4 ((i2 + 6)) m168 hIm168 hFm168   (by omega) (by omega) (by assumption) (by omega))
        by_cases h172 : x9 = 13
        · refine zw_111 (t := 655) zr_0_33 (by rw [h172]; rfl) ?_
          refine zw_7 zr_0_655 rfl ?_
          refine zw_7s zr_0_656 rfl ?_
          refine zw_3 zr_0_657 rfl ?_
          refine zw_push zr_0_658 ?_
          refine zw_16 zr_0_659 (by omega) ?_
          refine zw_100 zr_0_660 rfl (by omega) (by omega) ?_
          intro x173 ex173 hx173a hx173b
          refine zw_7s zr_0_661 rfl ?_
          refine zw_3 zr_0_662 rfl ?_
          refine zw_push zr_0_663 ?_
          refine zw_16 zr_0_664 (by omega) ?_
          refine zw_100 zr_0_665 rfl (by omega) (by omega) ?_
          intro x174 ex174 hx174a hx174b
          refine zw_C zr_0_666 (Or.inl rfl) zm_115 rfl rfl ⟨Nat.le_of_ble_eq_true rfl, Nat.le_of_ble_eq_true rfl, Nat.le_of_ble_eq_true rfl, rfl, by decide⟩ (by omega) (th_115 (d := d - 1) (by omega) hIm3 (a0 := x173) (a1 := x174)   (F12 := m3 12)  rfl (by omega) (by omega) ) ?_
          rintro _ m175 ⟨r176, rfl, hr176a, hr176b, hIm175, gm175, po0_r176, po1_r176⟩
          have hFm175 : zFr W_0 m0 m175 := hFm3.trans gm175 rfl
          show zW E (d) 0 669 [(6, 0), (2, 0), (2, 69), (0, i2)] [(0, r176)] m175 Q
          refine zw_115 zr_0_669 rfl ?_
          refine zw_7 zr_0_670 rfl ?_
          refine zw_7s zr_0_671 rfl ?_
          refine zw_3 zr_0_672 rfl ?_
          refine zw_push zr_0_673 ?_
          refine zw_16 zr_0_674 (by omega) ?_
          refine zw_100k zr_0_675 rfl (by omega) (by omega) ex173.symm ?_
          refine zw_7s zr_0_676 rfl ?_
          refine zw_3 zr_0_677 rfl ?_
          refine zw_push zr_0_678 ?_
          refine zw_16 zr_0_679 (by omega) ?_
          refine zw_100k zr_0_680 rfl (by omega) (by omega) ex174.symm ?_
          refine zw_C zr_0_681 (Or.inl rfl) zm_179 rfl rfl ⟨Nat.le_of_ble_eq_true rfl, Nat.le_of_ble_eq_true rfl, Nat.le_of_ble_eq_true rfl, rfl, by decide⟩ (by omega) (th_179 (d := d - 1) (by omega) hIm175 (a0 := x173) (a1 := x174)   (F70 := m175 70)  rfl (by omega) (by omega) ) ?_
          rintro _ m177 ⟨r178, rfl, hr178a, hr178b, hIm177, gm177, po0_r178, po1_r178⟩
          have hFm177 : zFr W_0 m0 m177 := hFm175.trans gm177 rfl
          show zW E (d) 0 684 [(6, 0), (2, 0), (2, 69), (0, i2)] [(0, r178)] m177 Q
          obtain ⟨hkz179, hrz179⟩ := zk_shape hIm3 hv0lp18_4 gm175 po0_r176 po1_r176 gm177 po0_r178 po1_r178
          refine zw_115 zr_0_684 rfl ?_
          refine zw_42 zr_0_685 ?_
          refine zw_15 (c := 6) (L' := [(6, 0), (2, 0), (2, 69), (0, (i2 + 6))]) zr_0_1239 rfl (by decide) (by omega) rfl ?_
          refine zw_42 zr_0_1242 ?_
          exact zw_less (L := [(6, 0), (2, 0), (2, 69), (0, (i2 + 6))]) ⟨Or.inr rfl, Or.inr rfl, Or.inr rfl, Or.inr rfl, trivial⟩ (ihlp18_4 ((i2 + 6)) m177 hIm177 hFm177   (by omega) (by omega) (by assumption) (by omega))
        by_cases h181 : x9 = 14
        · refine zw_111 (t := 688) zr_0_33 (by rw [h181]; rfl) ?_
          refine zw_7 zr_0_688 rfl ?_
          refine zw_7s zr_0_689 rfl ?_
          refine zw_3 zr_0_690 rfl ?_
          refine zw_push zr_0_691 ?_
          refine zw_16 zr_0_692 (by omega) ?_
          refine zw_100 zr_0_693 rfl (by omega) (by omega) ?_
          intro x182 ex182 hx182a hx182b
          refine zw_7s zr_0_694 rfl ?_
          refine zw_3 zr_0_695 rfl ?_
          refine zw_push zr_0_696 ?_
          refine zw_16 zr_0_697 (by omega) ?_
          refine zw_100 zr_0_698 rfl (by omega) (by omega) ?_
          intro x183 ex183 hx183a hx183b
          obtain ⟨f184, ef184⟩ : ∃ v, m3 1 4 = v := ⟨_, rfl⟩
          have bf184 := ib_1_4 hIm3
          rw [ef184] at bf184
          obtain ⟨f185, ef185⟩ : ∃ v, m3 1 5 = v := ⟨_, rfl⟩
          have bf185 := ib_1_5 hIm3
          rw [ef185] at bf185
          refine zw_C zr_0_699 (Or.inl rfl) zm_116 rfl rfl ⟨Nat.le_of_ble_eq_true rfl, Nat.le_of_ble_eq_true rfl, Nat.le_of_ble_eq_true rfl, rfl, by decide⟩ (by omega) (th_116 (d := d - 1) (by omega) hIm3 (a0 := x182) (a1 := x183) (g0 := f184) (g1 := f185)   ef184 ef185  (by omega) (by omega) ) ?_
          rintro _ m186 ⟨r187, rfl, hr187a, hr187b, hIm186, gm186, po0_r187, po1_r187⟩
          have hFm186 : zFr W_0 m0 m186 := hFm3.trans gm186 rfl
          show zW E (d) 0 702 [(6, 0), (2, 0), (2, 69), (0, i2)] [(0, r187)] m186 Q
          refine zw_115 zr_0_702 rfl ?_
          refine zw_7 zr_0_703 rfl ?_
          refine zw_7s zr_0_704 rfl ?_
          refine zw_3 zr_0_705 rfl ?_
          refine zw_push zr_0_706 ?_
          refine zw_16 zr_0_707 (by omega) ?_
          refine zw_100k zr_0_708 rfl (by omega) (by omega) ex182.symm ?_
          refine zw_7s zr_0_709 rfl ?_
          refine zw_3 zr_0_710 rfl ?_
          refine zw_push zr_0_711 ?_
          refine zw_16 zr_0_712 (by omega) ?_
          refine zw_100k zr_0_713 rfl (by omega) (by omega) ex183.symm ?_
          refine zw_C zr_0_714 (Or.inl rfl) zm_180 rfl rfl ⟨Nat.le_of_ble_eq_true rfl, Nat.le_of_ble_eq_true rfl, Nat.le_of_ble_eq_true rfl, rfl, by decide⟩ (by omega) (th_180 (d := d - 1) (by omega) hIm186 (a0 := x182) (a1 := x183)   (F70 := m186 70)  rfl (by omega) (by omega) ) ?_
          rintro _ m188 ⟨r189, rfl, hr189a, hr189b, hIm188, gm188, po0_r189, po1_r189⟩
          have hFm188 : zFr W_0 m0 m188 := hFm186.trans gm188 rfl
          show zW E (d) 0 717 [(6, 0), (2, 0), (2, 69), (0, i2)] [(0, r189)] m188 Q
          obtain ⟨hkz190, hrz190⟩ := zk_wide hIm3 hv0lp18_4 gm186 ef184 ef185 po0_r187 po1_r187 gm188 po0_r189 po1_r189
          refine zw_115 zr_0_717 rfl ?_
          refine zw_42 zr_0_718 ?_
          refine zw_15 (c := 6) (L' := [(6, 0), (2, 0), (2, 69), (0, (i2 + 6))]) zr_0_1239 rfl (by decide) (by omega) rfl ?_
          refine zw_42 zr_0_1242 ?_
          exact zw_less (L := [(6, 0), (2, 0), (2, 69), (0, (i2 + 6))]) ⟨Or.inr rfl, Or.inr rfl, Or.inr rfl, Or.inr rfl, trivial⟩ (ihlp18_4 ((i2 + 6)) m188 hIm188 hFm188   (by omega) (by omega) (by assumption) (by omega))
        by_cases h192 : x9 = 15
        · refine zw_111 (t := 721) zr_0_33 (by rw [h192]; rfl) ?_
          refine zw_7 zr_0_721 rfl ?_
          obtain ⟨f193, ef193⟩ : ∃ v, m3 1 0 = v := ⟨_, rfl⟩
          have bf193 := ib_1_0 hIm3
          rw [ef193] at bf193
          obtain ⟨f194, ef194⟩ : ∃ v, m3 1 1 = v := ⟨_, rfl⟩
          have bf194 := ib_1_1 hIm3
          rw [ef194] at bf194
          obtain ⟨f195, ef195⟩ : ∃ v, m3 1 2 = v := ⟨_, rfl⟩
          have bf195 := ib_1_2 hIm3
          rw [ef195] at bf195
          obtain ⟨f196, ef196⟩ : ∃ v, m3 1 3 = v := ⟨_, rfl⟩
          have bf196 := ib_1_3 hIm3
          rw [ef196] at bf196
          obtain ⟨f197, ef197⟩ : ∃ v, m3 1 4 = v := ⟨_, rfl⟩
          have bf197 := ib_1_4 hIm3
          rw [ef197] at bf197
          obtain ⟨f198, ef198⟩ : ∃ v, m3 1 5 = v := ⟨_, rfl⟩
          have bf198 := ib_1_5 hIm3
          rw [ef198] at bf198
          refine zw_C zr_0_722 (Or.inl rfl) zm_117 rfl rfl ⟨Nat.le_of_ble_eq_true rfl, Nat.le_of_ble_eq_true rfl, Nat.le_of_ble_eq_true rfl, rfl, by decide⟩ (by omega) (th_117 (d := d - 1) (by omega) hIm3  (g0 := f193) (g1 := f194) (g2 := f195) (g3 := f196) (g4 := f197) (g5 := f198)  (F2 := m3 2) (F5 := m3 5) (F6 := m3 6) (F7 := m3 7) (F8 := m3 8) (F12 := m3 12) ef193 ef194 ef195 ef196 ef197 ef198 rfl rfl rfl rfl rfl rfl  (qK_pl hv0lp18_4 ef194 ef193)) ?_
          rintro _ m200 ⟨r201, rfl, hr201a, hr201b, hIm200, gm200, po0_r201⟩
          have hFm200 : zFr W_0 m0 m200 := hFm3.trans gm200 rfl
          have km200_1_0 : m200 1 0 = f193 := (gm200 1 0 rfl).trans ef193
          have km200_1_1 : m200 1 1 = f194 := (gm200 1 1 rfl).trans ef194
          have km200_1_2 : m200 1 2 = f195 := (gm200 1 2 rfl).trans ef195
          have km200_1_3 : m200 1 3 = f196 := (gm200 1 3 rfl).trans ef196
          have km200_1_4 : m200 1 4 = f197 := (gm200 1 4 rfl).trans ef197
          have km200_1_5 : m200 1 5 = f198 := (gm200 1 5 rfl).trans ef198
          show zW E (d) 0 725 [(6, 0), (2, 0), (2, 69), (0, i2)] [(0, r201)] m200 Q
          refine zw_115 zr_0_725 rfl ?_
          refine zw_7 zr_0_726 rfl ?_
          obtain ⟨f202, ef202⟩ : ∃ v, m200 70 823 = v := ⟨_, rfl⟩
          have bf202 : 0 ≤ m200 70 823 ∧ m200 70 823 ≤ 60 := ib_70_meetings hIm200 (by omega)
          rw [ef202] at bf202
          refine zw_C zr_0_727 (Or.inl rfl) zm_185 rfl rfl ⟨Nat.le_of_ble_eq_true rfl, Nat.le_of_ble_eq_true rfl, Nat.le_of_ble_eq_true rfl, rfl, by decide⟩ (by omega) (th_185 (d := d - 1) (by omega) hIm200  (g0 := f202)  (F70 := m200 70) ef202 rfl  (qK_ne (zk_fr hv0lp18_4 gm200) ef202)) ?_
          rintro _ m204 ⟨r205, rfl, hr205a, hr205b, hIm204, gm204, po0_r205⟩
          have hFm204 : zFr W_0 m0 m204 := hFm200.trans gm204 rfl
          have km204_1_0 : m204 1 0 = f193 := (gm204 1 0 rfl).trans km200_1_0
          have km204_1_1 : m204 1 1 = f194 := (gm204 1 1 rfl).trans km200_1_1
          have km204_1_2 : m204 1 2 = f195 := (gm204 1 2 rfl).trans km200_1_2
          have km204_1_3 : m204 1 3 = f196 := (gm204 1 3 rfl).trans km200_1_3
          have km204_1_4 : m204 1 4 = f197 := (gm204 1 4 rfl).trans km200_1_4
          have km204_1_5 : m204 1 5 = f198 := (gm204 1 5 rfl).trans km200_1_5
          have km204_70_823 : m204 70 823 = f202 := (gm204 70 823 rfl).trans ef202
          show zW E (d) 0 730 [(6, 0), (2, 0), (2, 69), (0, i2)] [(0, r205)] m204 Q
          have hkz206_0 := zk_fr hv0lp18_4 gm200
          have hkz206_1 := zk_fr hkz206_0 gm204
          have hqz207 := zq_quarrel hIm3 hv0lp18_4 gm200 ef193 ef194 ef195 ef196 ef197 ef198 po0_r201 ef202 po0_r205
          refine zw_115 zr_0_730 rfl ?_
          refine zw_42 zr_0_731 ?_
          refine zw_15 (c := 6) (L' := [(6, 0), (2, 0), (2, 69), (0, (i2 + 6))]) zr_0_1239 rfl (by decide) (by omega) rfl ?_
          refine zw_42 zr_0_1242 ?_
          exact zw_less (L := [(6, 0), (2, 0), (2, 69), (0, (i2 + 6))]) ⟨Or.inr rfl, Or.inr rfl, Or.inr rfl, Or.inr rfl, trivial⟩ (ihlp18_4 ((i2 + 6)) m204 hIm204 hFm204   (by omega) (by omega) (by assumption) (by omega))
        by_cases h209 : x9 = 16
        · refine zw_111 (t := 734) zr_0_33 (by rw [h209]; rfl) ?_
          refine zw_7 zr_0_734 rfl ?_
          refine zw_7s zr_0_735 rfl ?_
          refine zw_3 zr_0_736 rfl ?_
          refine zw_push zr_0_737 ?_
          refine zw_16 zr_0_738 (by omega) ?_
          refine zw_100 zr_0_739 rfl (by omega) (by omega) ?_
          intro x210 ex210 hx210a hx210b
          refine zw_7s zr_0_740 rfl ?_
          refine zw_3 zr_0_741 rfl ?_
          refine zw_push zr_0_742 ?_
          refine zw_16 zr_0_743 (by omega) ?_
          refine zw_100 zr_0_744 rfl (by omega) (by omega) ?_
          intro x211 ex211 hx211a hx211b
          refine zw_7s zr_0_745 rfl ?_
          refine zw_3 zr_0_746 rfl ?_
          refine zw_push zr_0_747 ?_
          refine zw_16 zr_0_748 (by omega) ?_
          refine zw_100 zr_0_749 rfl (by omega) (by omega) ?_
          intro x212 ex212 hx212a hx212b
          obtain ⟨f213, ef213⟩ : ∃ v, m3 1 0 = v := ⟨_, rfl⟩
          have bf213 := ib_1_0 hIm3
          rw [ef213] at bf213
          obtain ⟨f214, ef214⟩ : ∃ v, m3 1 1 = v := ⟨_, rfl⟩
          have bf214 := ib_1_1 hIm3
          rw [ef214] at bf214
          obtain ⟨f215, ef215⟩ : ∃ v, m3 1 2 = v := ⟨_, rfl⟩
          have bf215 := ib_1_2 hIm3
          rw [ef215] at bf215
          obtain ⟨f216, ef216⟩ : ∃ v, m3 1 3 = v := ⟨_, rfl⟩
          have bf216 := ib_1_3 hIm3
          rw [ef216] at bf216
          obtain ⟨f217, ef217⟩ : ∃ v, m3 1 4 = v := ⟨_, rfl⟩
          have bf217 := ib_1_4 hIm3
          rw [ef217] at bf217
          obtain ⟨f218, ef218⟩ : ∃ v, m3 1 5 = v := ⟨_, rfl⟩
          have bf218 := ib_1_5 hIm3
          rw [ef218] at bf218
          refine zw_C zr_0_750 (Or.inl rfl) zm_118 rfl rfl ⟨Nat.le_of_ble_eq_true rfl, Nat.le_of_ble_eq_true rfl, Nat.le_of_ble_eq_true rfl, rfl, by decide⟩ (by omega) (th_118 (d := d - 1) (by omega) hIm3 (a0 := x210) (a1 := x211) (a2 := x212) (g0 := f213) (g1 := f214) (g2 := f215) (g3 := f216) (g4 := f217) (g5 := f218)  (F2 := m3 2) (F5 := m3 5) (F6 := m3 6) (F7 := m3 7) (F8 := m3 8) (F12 := m3 12) ef213 ef214 ef215 ef216 ef217 ef218 rfl rfl rfl rfl rfl rfl (by omega) (by omega) (by omega) (qK_pl hv0lp18_4 ef214 ef213)) ?_
          rintro _ m220 ⟨r221, rfl, hr221a, hr221b, hIm220, gm220, po0_r221⟩
          have hFm220 : zFr W_0 m0 m220 := hFm3.trans gm220 rfl
          have km220_1_0 : m220 1 0 = f213 := (gm220 1 0 rfl).trans ef213
          have km220_1_1 : m220 1 1 = f214 := (gm220 1 1 rfl).trans ef214
          have km220_1_2 : m220 1 2 = f215 := (gm220 1 2 rfl).trans ef215
          have km220_1_3 : m220 1 3 = f216 := (gm220 1 3 rfl).trans ef216
          have km220_1_4 : m220 1 4 = f217 := (gm220 1 4 rfl).trans ef217
          have km220_1_5 : m220 1 5 = f218 := (gm220 1 5 rfl).trans ef218
          show zW E (d) 0 753 [(6, 0), (2, 0), (2, 69), (0, i2)] [(0, r221)] m220 Q
          refine zw_115 zr_0_753 rfl ?_
          refine zw_7 zr_0_754 rfl ?_
          refine zw_7s zr_0_755 rfl ?_
          refine zw_3 zr_0_756 rfl ?_
          refine zw_push zr_0_757 ?_
          refine zw_16 zr_0_758 (by omega) ?_
          refine zw_100k zr_0_759 rfl (by omega) (by omega) ex210.symm ?_
          refine zw_7s zr_0_760 rfl ?_
          refine zw_3 zr_0_761 rfl ?_
          refine zw_push zr_0_762 ?_
          refine zw_16 zr_0_763 (by omega) ?_
          refine zw_100k zr_0_764 rfl (by omega) (by omega) ex211.symm ?_
          refine zw_7s zr_0_765 rfl ?_
          refine zw_3 zr_0_766 rfl ?_
          refine zw_push zr_0_767 ?_
          refine zw_16 zr_0_768 (by omega) ?_
          refine zw_100k zr_0_769 rfl (by omega) (by omega) ex212.symm ?_
          obtain ⟨f222, ef222⟩ : ∃ v, m220 70 822 = v := ⟨_, rfl⟩
          have bf222 : 0 ≤ m220 70 822 ∧ m220 70 822 ≤ 10 := ib_70_players hIm220 (by omega)
          rw [ef222] at bf222
          obtain ⟨f223, ef223⟩ : ∃ v, m220 70 823 = v := ⟨_, rfl⟩
          have bf223 : 0 ≤ m220 70 823 ∧ m220 70 823 ≤ 60 := ib_70_meetings hIm220 (by omega)
          rw [ef223] at bf223
          refine zw_C zr_0_770 (Or.inl rfl) zm_186 rfl rfl ⟨Nat.le_of_ble_eq_true rfl, Nat.le_of_ble_eq_true rfl, Nat.le_of_ble_eq_true rfl, rfl, by decide⟩ (by omega) (th_186 (d := d - 1) (by omega) hIm220 (a0 := x210) (a1 := x211) (a2 := x212) (g0 := f222) (g1 := f223)  (F70 := m220 70) (F80 := m220 80) ef222 ef223 rfl rfl (by omega) (by omega) (by omega) (qK_ne (zk_fr hv0lp18_4 gm220) ef223)) ?_
          rintro _ m225 ⟨r226, rfl, hr226a, hr226b, hIm225, gm225, po0_r226⟩
          have hFm225 : zFr W_0 m0 m225 := hFm220.trans gm225 rfl
          have km225_1_0 : m225 1 0 = f213 := (gm225 1 0 rfl).trans km220_1_0
          have km225_1_1 : m225 1 1 = f214 := (gm225 1 1 rfl).trans km220_1_1
          have km225_1_2 : m225 1 2 = f215 := (gm225 1 2 rfl).trans km220_1_2
          have km225_1_3 : m225 1 3 = f216 := (gm225 1 3 rfl).trans km220_1_3
          have km225_1_4 : m225 1 4 = f217 := (gm225 1 4 rfl).trans km220_1_4
          have km225_1_5 : m225 1 5 = f218 := (gm225 1 5 rfl).trans km220_1_5
          have km225_70_822 : m225 70 822 = f222 := (gm225 70 822 rfl).trans ef222
          have km225_70_823 : m225 70 823 = f223 := (gm225 70 823 rfl).trans ef223
          show zW E (d) 0 773 [(6, 0), (2, 0), (2, 69), (0, i2)] [(0, r226)] m225 Q
          have hkz227_0 := zk_fr hv0lp18_4 gm220
          have hkz227_1 := zk_fr hkz227_0 gm225
          have hqz228 := zq_span hIm3 hv0lp18_4 gm220 ef213 ef214 ef215 ef216 ef217 ef218 po0_r221 ef222 ef223 po0_r226
          refine zw_115 zr_0_773 rfl ?_
          refine zw_42 zr_0_774 ?_
          refine zw_15 (c := 6) (L' := [(6, 0), (2, 0), (2, 69), (0, (i2 + 6))]) zr_0_1239 rfl (by decide) (by omega) rfl ?_
          refine zw_42 zr_0_1242 ?_
          exact zw_less (L := [(6, 0), (2, 0), (2, 69), (0, (i2 + 6))]) ⟨Or.inr rfl, Or.inr rfl, Or.inr rfl, Or.inr rfl, trivial⟩ (ihlp18_4 ((i2 + 6)) m225 hIm225 hFm225   (by omega) (by omega) (by assumption) (by omega))
        by_cases h230 : x9 = 17
        · refine zw_111 (t := 777) zr_0_33 (by rw [h230]; rfl) ?_
          refine zw_7 zr_0_777 rfl ?_
          obtain ⟨f231, ef231⟩ : ∃ v, m3 1 0 = v := ⟨_, rfl⟩
          have bf231 := ib_1_0 hIm3
          rw [ef231] at bf231
          obtain ⟨f232, ef232⟩ : ∃ v, m3 1 1 = v := ⟨_, rfl⟩
          have bf232 := ib_1_1 hIm3
          rw [ef232] at bf232
          obtain ⟨f233, ef233⟩ : ∃ v, m3 1 2 = v := ⟨_, rfl⟩
          have bf233 := ib_1_2 hIm3
          rw [ef233] at bf233
          obtain ⟨f234, ef234⟩ : ∃ v, m3 1 3 = v := ⟨_, rfl⟩
          have bf234 := ib_1_3 hIm3
          rw [ef234] at bf234
          obtain ⟨f235, ef235⟩ : ∃ v, m3 1 4 = v := ⟨_, rfl⟩
          have bf235 := ib_1_4 hIm3
          rw [ef235] at bf235
          obtain ⟨f236, ef236⟩ : ∃ v, m3 1 5 = v := ⟨_, rfl⟩
          have bf236 := ib_1_5 hIm3
          rw [ef236] at bf236
          refine zw_C zr_0_778 (Or.inl rfl) zm_119 rfl rfl ⟨Nat.le_of_ble_eq_true rfl, Nat.le_of_ble_eq_true rfl, Nat.le_of_ble_eq_true rfl, rfl, by decide⟩ (by omega) (th_119 (d := d - 1) (by omega) hIm3  (g0 := f231) (g1 := f232) (g2 := f233) (g3 := f234) (g4 := f235) (g5 := f236)  (F2 := m3 2) (F5 := m3 5) (F6 := m3 6) (F7 := m3 7) (F8 := m3 8) (F12 := m3 12) ef231 ef232 ef233 ef234 ef235 ef236 rfl rfl rfl rfl rfl rfl  (qK_pl hv0lp18_4 ef232 ef231)) ?_
          rintro _ m238 ⟨r239, rfl, hr239a, hr239b, hIm238, gm238, po0_r239⟩
          have hFm238 : zFr W_0 m0 m238 := hFm3.trans gm238 rfl
          have km238_1_0 : m238 1 0 = f231 := (gm238 1 0 rfl).trans ef231
          have km238_1_1 : m238 1 1 = f232 := (gm238 1 1 rfl).trans ef232
          have km238_1_2 : m238 1 2 = f233 := (gm238 1 2 rfl).trans ef233
          have km238_1_3 : m238 1 3 = f234 := (gm238 1 3 rfl).trans ef234
          have km238_1_4 : m238 1 4 = f235 := (gm238 1 4 rfl).trans ef235
          have km238_1_5 : m238 1 5 = f236 := (gm238 1 5 rfl).trans ef236
          show zW E (d) 0 781 [(6, 0), (2, 0), (2, 69), (0, i2)] [(1, r239)] m238 Q
          refine zw_7 zr_0_781 rfl ?_
          obtain ⟨f240, ef240⟩ : ∃ v, m238 70 823 = v := ⟨_, rfl⟩
          have bf240 : 0 ≤ m238 70 823 ∧ m238 70 823 ≤ 60 := ib_70_meetings hIm238 (by omega)
          rw [ef240] at bf240
          refine zw_C zr_0_782 (Or.inl rfl) zm_187 rfl rfl ⟨Nat.le_of_ble_eq_true rfl, Nat.le_of_ble_eq_true rfl, Nat.le_of_ble_eq_true rfl, rfl, by decide⟩ (by omega) (th_187 (d := d - 1) (by omega) hIm238  (g0 := f240)  (F70 := m238 70) ef240 rfl  (qK_ne (zk_fr hv0lp18_4 gm238) ef240)) ?_
          rintro _ m242 ⟨r243, rfl, hr243a, hr243b, hIm242, gm242, po0_r243⟩
          have hFm242 : zFr W_0 m0 m242 := hFm238.trans gm242 rfl
          have km242_1_0 : m242 1 0 = f231 := (gm242 1 0 rfl).trans km238_1_0
          have km242_1_1 : m242 1 1 = f232 := (gm242 1 1 rfl).trans km238_1_1
          have km242_1_2 : m242 1 2 = f233 := (gm242 1 2 rfl).trans km238_1_2
          have km242_1_3 : m242 1 3 = f234 := (gm242 1 3 rfl).trans km238_1_3
          have km242_1_4 : m242 1 4 = f235 := (gm242 1 4 rfl).trans km238_1_4
          have km242_1_5 : m242 1 5 = f236 := (gm242 1 5 rfl).trans km238_1_5
          have km242_70_823 : m242 70 823 = f240 := (gm242 70 823 rfl).trans ef240
          show zW E (d) 0 785 [(6, 0), (2, 0), (2, 69), (0, i2)] [(1, r243), (1, r239)] m242 Q
          have hkz244_0 := zk_fr hv0lp18_4 gm238
          have hkz244_1 := zk_fr hkz244_0 gm242
          have hqz245 := zq_fewest hIm3 hv0lp18_4 gm238 ef231 ef232 ef233 ef234 ef235 ef236 po0_r239 ef240 po0_r243
          refine zw_39_1 zr_0_785 zr_0_786 ?_ ?_
          · intro h246
            refine zw_15 (c := 6) (L' := [(6, 0), (2, 0), (2, 69), (0, (i2 + 6))]) zr_0_1239 rfl (by decide) (by omega) rfl ?_
            refine zw_42 zr_0_1242 ?_
            exact zw_less (L := [(6, 0), (2, 0), (2, 69), (0, (i2 + 6))]) ⟨Or.inr rfl, Or.inr rfl, Or.inr rfl, Or.inr rfl, trivial⟩ (ihlp18_4 ((i2 + 6)) m242 hIm242 hFm242   (by omega) (by omega) (by assumption) (by omega))
          · intro h248
            refine zw_push zr_0_789 ?_
            refine zw_R zr_0_790 (by decide) zm_0 (v := (0, 0)) (zRetB (by omega)) ?_
            rw [← hQ]; exact ⟨_, rfl, by omega, by omega, hIm242, hFm242⟩
        by_cases h249 : x9 = 18
        · refine zw_111 (t := 791) zr_0_33 (by rw [h249]; rfl) ?_
          refine zw_7 zr_0_791 rfl ?_
          refine zw_7s zr_0_792 rfl ?_
          refine zw_3 zr_0_793 rfl ?_
          refine zw_push zr_0_794 ?_
          refine zw_16 zr_0_795 (by omega) ?_
          refine zw_100 zr_0_796 rfl (by omega) (by omega) ?_
          intro x250 ex250 hx250a hx250b
          obtain ⟨f251, ef251⟩ : ∃ v, m3 1 0 = v := ⟨_, rfl⟩
          have bf251 := ib_1_0 hIm3
          rw [ef251] at bf251
          obtain ⟨f252, ef252⟩ : ∃ v, m3 1 1 = v := ⟨_, rfl⟩
          have bf252 := ib_1_1 hIm3
          rw [ef252] at bf252
          obtain ⟨f253, ef253⟩ : ∃ v, m3 1 2 = v := ⟨_, rfl⟩
          have bf253 := ib_1_2 hIm3
          rw [ef253] at bf253
          obtain ⟨f254, ef254⟩ : ∃ v, m3 1 3 = v := ⟨_, rfl⟩
          have bf254 := ib_1_3 hIm3
          rw [ef254] at bf254
          refine zw_C zr_0_797 (Or.inl rfl) zm_120 rfl rfl ⟨Nat.le_of_ble_eq_true rfl, Nat.le_of_ble_eq_true rfl, Nat.le_of_ble_eq_true rfl, rfl, by decide⟩ (by omega) (th_120 (d := d - 1) (by omega) hIm3 (a0 := x250) (g0 := f251) (g1 := f252) (g2 := f253) (g3 := f254)  (F6 := m3 6) (F7 := m3 7) ef251 ef252 ef253 ef254 rfl rfl (by omega) ) ?_
          rintro _ m255 ⟨r256, rfl, hr256a, hr256b, hIm255, gm255, po0_r256⟩
          have hFm255 : zFr W_0 m0 m255 := hFm3.trans gm255 rfl
          have km255_1_0 : m255 1 0 = f251 := (gm255 1 0 rfl).trans ef251
          have km255_1_1 : m255 1 1 = f252 := (gm255 1 1 rfl).trans ef252
          have km255_1_2 : m255 1 2 = f253 := (gm255 1 2 rfl).trans ef253
          have km255_1_3 : m255 1 3 = f254 := (gm255 1 3 rfl).trans ef254
          show zW E (d) 0 800 [(6, 0), (2, 0), (2, 69), (0, i2)] [(0, r256)] m255 Q
          refine zw_115 zr_0_800 rfl ?_
          refine zw_7 zr_0_801 rfl ?_
          refine zw_7s zr_0_802 rfl ?_
          refine zw_3 zr_0_803 rfl ?_
          refine zw_push zr_0_804 ?_
          refine zw_16 zr_0_805 (by omega) ?_
          refine zw_100k zr_0_806 rfl (by omega) (by omega) ex250.symm ?_
          obtain ⟨f257, ef257⟩ : ∃ v, m255 70 822 = v := ⟨_, rfl⟩
          have bf257 : 0 ≤ m255 70 822 ∧ m255 70 822 ≤ 10 := ib_70_players hIm255 (by omega)
          rw [ef257] at bf257
          obtain ⟨f258, ef258⟩ : ∃ v, m255 70 823 = v := ⟨_, rfl⟩
          have bf258 : 0 ≤ m255 70 823 ∧ m255 70 823 ≤ 60 := ib_70_meetings hIm255 (by omega)
          rw [ef258] at bf258
          refine zw_C zr_0_807 (Or.inl rfl) zm_190 rfl rfl ⟨Nat.le_of_ble_eq_true rfl, Nat.le_of_ble_eq_true rfl, Nat.le_of_ble_eq_true rfl, rfl, by decide⟩ (by omega) (th_190 (d := d - 1) (by omega) hIm255 (a0 := x250) (g0 := f257) (g1 := f258)  (F70 := m255 70) ef257 ef258 rfl (by omega) ) ?_
          rintro _ m259 ⟨r260, rfl, hr260a, hr260b, hIm259, gm259, po0_r260⟩
          have hFm259 : zFr W_0 m0 m259 := hFm255.trans gm259 rfl
          have km259_1_0 : m259 1 0 = f251 := (gm259 1 0 rfl).trans km255_1_0
          have km259_1_1 : m259 1 1 = f252 := (gm259 1 1 rfl).trans km255_1_1
          have km259_1_2 : m259 1 2 = f253 := (gm259 1 2 rfl).trans km255_1_2
          have km259_1_3 : m259 1 3 = f254 := (gm259 1 3 rfl).trans km255_1_3
          have km259_70_822 : m259 70 822 = f257 := (gm259 70 822 rfl).trans ef257
          have km259_70_823 : m259 70 823 = f258 := (gm259 70 823 rfl).trans ef258
          show zW E (d) 0 810 [(6, 0), (2, 0), (2, 69), (0, i2)] [(0, r260)] m259 Q
          have hkz261_0 := zk_fr hv0lp18_4 gm255
          have hkz261_1 := zk_fr hkz261_0 gm259
          have hqz262 := zq_island hIm3 hv0lp18_4 gm255 ef251 ef252 ef253 ef254 po0_r256 ef257 ef258 po0_r260
          refine zw_115 zr_0_810 rfl ?_
          refine zw_42 zr_0_811 ?_
          refine zw_15 (c := 6) (L' := [(6, 0), (2, 0), (2, 69), (0, (i2 + 6))]) zr_0_1239 rfl (by decide) (by omega) rfl ?_
          refine zw_42 zr_0_1242 ?_
          exact zw_less (L := [(6, 0), (2, 0), (2, 69), (0, (i2 + 6))]) ⟨Or.inr rfl, Or.inr rfl, Or.inr rfl, Or.inr rfl, trivial⟩ (ihlp18_4 ((i2 + 6)) m259 hIm259 hFm259   (by omega) (by omega) (by assumption) (by omega))
        by_cases h264 : x9 = 19
        · refine zw_111 (t := 814) zr_0_33 (by rw [h264]; rfl) ?_
          refine zw_7 zr_0_814 rfl ?_
          refine zw_7s zr_0_815 rfl ?_
          refine zw_3 zr_0_816 rfl ?_
          refine zw_push zr_0_817 ?_
          refine zw_16 zr_0_818 (by omega) ?_
          refine zw_100 zr_0_819 rfl (by omega) (by omega) ?_
          intro x265 ex265 hx265a hx265b
          refine zw_7s zr_0_820 rfl ?_
          refine zw_3 zr_0_821 rfl ?_
          refine zw_push zr_0_822 ?_
          refine zw_16 zr_0_823 (by omega) ?_
          refine zw_100 zr_0_824 rfl (by omega) (by omega) ?_
          intro x266 ex266 hx266a hx266b
          refine zw_7s zr_0_825 rfl ?_
          refine zw_3 zr_0_826 rfl ?_
          refine zw_push zr_0_827 ?_
          refine zw_16 zr_0_828 (by omega) ?_
          refine zw_100 zr_0_829 rfl (by omega) (by omega) ?_
          intro x267 ex267 hx267a hx267b
          obtain ⟨f268, ef268⟩ : ∃ v, m3 1 0 = v := ⟨_, rfl⟩
          have bf268 := ib_1_0 hIm3
          rw [ef268] at bf268
          obtain ⟨f269, ef269⟩ : ∃ v, m3 1 1 = v := ⟨_, rfl⟩
          have bf269 := ib_1_1 hIm3
          rw [ef269] at bf269
          obtain ⟨f270, ef270⟩ : ∃ v, m3 1 2 = v := ⟨_, rfl⟩
          have bf270 := ib_1_2 hIm3
          rw [ef270] at bf270
          obtain ⟨f271, ef271⟩ : ∃ v, m3 1 3 = v := ⟨_, rfl⟩
          have bf271 := ib_1_3 hIm3
          rw [ef271] at bf271
          refine zw_C zr_0_830 (Or.inl rfl) zm_121 rfl rfl ⟨Nat.le_of_ble_eq_true rfl, Nat.le_of_ble_eq_true rfl, Nat.le_of_ble_eq_true rfl, rfl, by decide⟩ (by omega) (th_121 (d := d - 1) (by omega) hIm3 (a0 := x265) (a1 := x266) (a2 := x267) (g0 := f268) (g1 := f269) (g2 := f270) (g3 := f271)  (F6 := m3 6) (F7 := m3 7) (F61 := m3 61) (F62 := m3 62) ef268 ef269 ef270 ef271 rfl rfl rfl rfl (by omega) (by omega) (by omega) (qK_pl hv0lp18_4 ef269 ef268)) ?_
          rintro _ m273 ⟨r274, rfl, hr274a, hr274b, hIm273, gm273, po0_r274⟩
          have hFm273 : zFr W_0 m0 m273 := hFm3.trans gm273 rfl
          have km273_1_0 : m273 1 0 = f268 := (gm273 1 0 rfl).trans ef268
          have km273_1_1 : m273 1 1 = f269 := (gm273 1 1 rfl).trans ef269
          have km273_1_2 : m273 1 2 = f270 := (gm273 1 2 rfl).trans ef270
          have km273_1_3 : m273 1 3 = f271 := (gm273 1 3 rfl).trans ef271
          show zW E (d) 0 833 [(6, 0), (2, 0), (2, 69), (0, i2)] [(0, r274)] m273 Q
          refine zw_115 zr_0_833 rfl ?_
          refine zw_7 zr_0_834 rfl ?_
          refine zw_7s zr_0_835 rfl ?_
          refine zw_3 zr_0_836 rfl ?_
          refine zw_push zr_0_837 ?_
          refine zw_16 zr_0_838 (by omega) ?_
          refine zw_100k zr_0_839 rfl (by omega) (by omega) ex265.symm ?_
          refine zw_7s zr_0_840 rfl ?_
          refine zw_3 zr_0_841 rfl ?_
          refine zw_push zr_0_842 ?_
          refine zw_16 zr_0_843 (by omega) ?_
          refine zw_100k zr_0_844 rfl (by omega) (by omega) ex266.symm ?_
          refine zw_7s zr_0_845 rfl ?_
          refine zw_3 zr_0_846 rfl ?_
          refine zw_push zr_0_847 ?_
          refine zw_16 zr_0_848 (by omega) ?_
          refine zw_100k zr_0_849 rfl (by omega) (by omega) ex267.symm ?_
          obtain ⟨f275, ef275⟩ : ∃ v, m273 70 822 = v := ⟨_, rfl⟩
          have bf275 : 0 ≤ m273 70 822 ∧ m273 70 822 ≤ 10 := ib_70_players hIm273 (by omega)
          rw [ef275] at bf275
          obtain ⟨f276, ef276⟩ : ∃ v, m273 70 823 = v := ⟨_, rfl⟩
          have bf276 : 0 ≤ m273 70 823 ∧ m273 70 823 ≤ 60 := ib_70_meetings hIm273 (by omega)
          rw [ef276] at bf276
          refine zw_C zr_0_850 (Or.inl rfl) zm_191 rfl rfl ⟨Nat.le_of_ble_eq_true rfl, Nat.le_of_ble_eq_true rfl, Nat.le_of_ble_eq_true rfl, rfl, by decide⟩ (by omega) (th_191 (d := d - 1) (by omega) hIm273 (a0 := x265) (a1 := x266) (a2 := x267) (g0 := f275) (g1 := f276)  (F70 := m273 70) (F81 := m273 81) ef275 ef276 rfl rfl (by omega) (by omega) (by omega) ) ?_
          rintro _ m277 ⟨r278, rfl, hr278a, hr278b, hIm277, gm277, po0_r278⟩
          have hFm277 : zFr W_0 m0 m277 := hFm273.trans gm277 rfl
          have km277_1_0 : m277 1 0 = f268 := (gm277 1 0 rfl).trans km273_1_0
          have km277_1_1 : m277 1 1 = f269 := (gm277 1 1 rfl).trans km273_1_1
          have km277_1_2 : m277 1 2 = f270 := (gm277 1 2 rfl).trans km273_1_2
          have km277_1_3 : m277 1 3 = f271 := (gm277 1 3 rfl).trans km273_1_3
          have km277_70_822 : m277 70 822 = f275 := (gm277 70 822 rfl).trans ef275
          have km277_70_823 : m277 70 823 = f276 := (gm277 70 823 rfl).trans ef276
          show zW E (d) 0 853 [(6, 0), (2, 0), (2, 69), (0, i2)] [(0, r278)] m277 Q
          have hkz279_0 := zk_fr hv0lp18_4 gm273
          have hkz279_1 := zk_fr hkz279_0 gm277
          have hqz280 := zq_rope hIm3 hv0lp18_4 gm273 ef268 ef269 ef270 ef271 po0_r274 ef275 ef276 po0_r278
          refine zw_115 zr_0_853 rfl ?_
          refine zw_42 zr_0_854 ?_
          refine zw_15 (c := 6) (L' := [(6, 0), (2, 0), (2, 69), (0, (i2 + 6))]) zr_0_1239 rfl (by decide) (by omega) rfl ?_
          refine zw_42 zr_0_1242 ?_
          exact zw_less (L := [(6, 0), (2, 0), (2, 69), (0, (i2 + 6))]) ⟨Or.inr rfl, Or.inr rfl, Or.inr rfl, Or.inr rfl, trivial⟩ (ihlp18_4 ((i2 + 6)) m277 hIm277 hFm277   (by omega) (by omega) (by assumption) (by omega))
        by_cases h282 : x9 = 20
        · refine zw_111 (t := 857) zr_0_33 (by rw [h282]; rfl) ?_
          refine zw_7 zr_0_857 rfl ?_
          obtain ⟨f283, ef283⟩ : ∃ v, m3 1 0 = v := ⟨_, rfl⟩
          have bf283 := ib_1_0 hIm3
          rw [ef283] at bf283
          obtain ⟨f284, ef284⟩ : ∃ v, m3 1 1 = v := ⟨_, rfl⟩
          have bf284 := ib_1_1 hIm3
          rw [ef284] at bf284
          obtain ⟨f285, ef285⟩ : ∃ v, m3 1 2 = v := ⟨_, rfl⟩
          have bf285 := ib_1_2 hIm3
          rw [ef285] at bf285
          obtain ⟨f286, ef286⟩ : ∃ v, m3 1 3 = v := ⟨_, rfl⟩
          have bf286 := ib_1_3 hIm3
          rw [ef286] at bf286
          refine zw_C zr_0_858 (Or.inl rfl) zm_122 rfl rfl ⟨Nat.le_of_ble_eq_true rfl, Nat.le_of_ble_eq_true rfl, Nat.le_of_ble_eq_true rfl, rfl, by decide⟩ (by omega) (th_122 (d := d - 1) (by omega) hIm3  (g0 := f283) (g1 := f284) (g2 := f285) (g3 := f286)  (F6 := m3 6) (F7 := m3 7) ef283 ef284 ef285 ef286 rfl rfl  (qK_pl hv0lp18_4 ef284 ef283)) ?_
          rintro _ m288 ⟨r289, rfl, hr289a, hr289b, hIm288, gm288, po0_r289, po1_r289⟩
          have hFm288 : zFr W_0 m0 m288 := hFm3.trans gm288 rfl
          have km288_1_0 : m288 1 0 = f283 := (gm288 1 0 rfl).trans ef283
          have km288_1_1 : m288 1 1 = f284 := (gm288 1 1 rfl).trans ef284
          have km288_1_2 : m288 1 2 = f285 := (gm288 1 2 rfl).trans ef285
          have km288_1_3 : m288 1 3 = f286 := (gm288 1 3 rfl).trans ef286
          show zW E (d) 0 861 [(6, 0), (2, 0), (2, 69), (0, i2)] [(1, r289)] m288 Q
          refine zw_116 zr_0_861 rfl ?_
          refine zw_7 zr_0_862 rfl ?_
          obtain ⟨f290, ef290⟩ : ∃ v, m288 70 823 = v := ⟨_, rfl⟩
          have bf290 : 0 ≤ m288 70 823 ∧ m288 70 823 ≤ 60 := ib_70_meetings hIm288 (by omega)
          rw [ef290] at bf290
          refine zw_C zr_0_863 (Or.inl rfl) zm_192 rfl rfl ⟨Nat.le_of_ble_eq_true rfl, Nat.le_of_ble_eq_true rfl, Nat.le_of_ble_eq_true rfl, rfl, by decide⟩ (by omega) (th_192 (d := d - 1) (by omega) hIm288  (g0 := f290)  (F70 := m288 70) (F81 := m288 81) ef290 rfl rfl  ) ?_
          rintro _ m291 ⟨r292, rfl, hr292a, hr292b, hIm291, gm291, po0_r292, po1_r292⟩
          have hFm291 : zFr W_0 m0 m291 := hFm288.trans gm291 rfl
          have km291_1_0 : m291 1 0 = f283 := (gm291 1 0 rfl).trans km288_1_0
          have km291_1_1 : m291 1 1 = f284 := (gm291 1 1 rfl).trans km288_1_1
          have km291_1_2 : m291 1 2 = f285 := (gm291 1 2 rfl).trans km288_1_2
          have km291_1_3 : m291 1 3 = f286 := (gm291 1 3 rfl).trans km288_1_3
          have km291_70_823 : m291 70 823 = f290 := (gm291 70 823 rfl).trans ef290
          show zW E (d) 0 866 [(6, 0), (2, 0), (2, 69), (0, i2)] [(1, r292)] m291 Q
          have hkz293_0 := zk_fr hv0lp18_4 gm288
          have hkz293_1 := zk_fr hkz293_0 gm291
          have hqz294 := zq_bridges hIm3 hv0lp18_4 gm288 ef283 ef284 ef285 ef286 po0_r289 po1_r289 ef290 po0_r292 po1_r292
          refine zw_116 zr_0_866 rfl ?_
          refine zw_42 zr_0_867 ?_
          refine zw_15 (c := 6) (L' := [(6, 0), (2, 0), (2, 69), (0, (i2 + 6))]) zr_0_1239 rfl (by decide) (by omega) rfl ?_
          refine zw_42 zr_0_1242 ?_
          exact zw_less (L := [(6, 0), (2, 0), (2, 69), (0, (i2 + 6))]) ⟨Or.inr rfl, Or.inr rfl, Or.inr rfl, Or.inr rfl, trivial⟩ (ihlp18_4 ((i2 + 6)) m291 hIm291 hFm291   (by omega) (by omega) (by assumption) (by omega))
        by_cases h296 : x9 = 21
        · refine zw_111 (t := 870) zr_0_33 (by rw [h296]; rfl) ?_
          refine zw_7 zr_0_870 rfl ?_
          refine zw_7s zr_0_871 rfl ?_
          refine zw_3 zr_0_872 rfl ?_
          refine zw_push zr_0_873 ?_
          refine zw_16 zr_0_874 (by omega) ?_
          refine zw_100 zr_0_875 rfl (by omega) (by omega) ?_
          intro x297 ex297 hx297a hx297b
          refine zw_7s zr_0_876 rfl ?_
          refine zw_3 zr_0_877 rfl ?_
          refine zw_push zr_0_878 ?_
          refine zw_16 zr_0_879 (by omega) ?_
          refine zw_100 zr_0_880 rfl (by omega) (by omega) ?_
          intro x298 ex298 hx298a hx298b
          refine zw_7s zr_0_881 rfl ?_
          refine zw_3 zr_0_882 rfl ?_
          refine zw_push zr_0_883 ?_
          refine zw_16 zr_0_884 (by omega) ?_
          refine zw_100 zr_0_885 rfl (by omega) (by omega) ?_
          intro x299 ex299 hx299a hx299b
          refine zw_C zr_0_886 (Or.inl rfl) zm_123 rfl rfl ⟨Nat.le_of_ble_eq_true rfl, Nat.le_of_ble_eq_true rfl, Nat.le_of_ble_eq_true rfl, rfl, by decide⟩ (by omega) (th_123 (d := d - 1) (by omega) hIm3 (a0 := x297) (a1 := x298) (a2 := x299)      (by omega) (by omega) (by omega) ) ?_
          rintro _ m300 ⟨r301, rfl, hr301a, hr301b, hIm300, gm300⟩
          have hFm300 : zFr W_0 m0 m300 := hFm3.trans gm300 rfl
          show zW E (d) 0 889 [(6, 0), (2, 0), (2, 69), (0, i2)] [(0, r301)] m300 Q
          refine zw_115 zr_0_889 rfl ?_
          refine zw_7 zr_0_890 rfl ?_
          refine zw_7s zr_0_891 rfl ?_
          refine zw_3 zr_0_892 rfl ?_
          refine zw_push zr_0_893 ?_
          refine zw_16 zr_0_894 (by omega) ?_
          refine zw_100k zr_0_895 rfl (by omega) (by omega) ex297.symm ?_
          refine zw_7s zr_0_896 rfl ?_
          refine zw_3 zr_0_897 rfl ?_
          refine zw_push zr_0_898 ?_
          refine zw_16 zr_0_899 (by omega) ?_
          refine zw_100k zr_0_900 rfl (by omega) (by omega) ex298.symm ?_
          refine zw_7s zr_0_901 rfl ?_
          refine zw_3 zr_0_902 rfl ?_
          refine zw_push zr_0_903 ?_
          refine zw_16 zr_0_904 (by omega) ?_
          refine zw_100k zr_0_905 rfl (by omega) (by omega) ex299.symm ?_
          refine zw_C zr_0_906 (Or.inl rfl) zm_196 rfl rfl ⟨Nat.le_of_ble_eq_true rfl, Nat.le_of_ble_eq_true rfl, Nat.le_of_ble_eq_true rfl, rfl, by decide⟩ (by omega) (th_196 (d := d - 1) (by omega) hIm300 (a0 := x297) (a1 := x298) (a2 := x299)      (by omega) (by omega) (by omega) ) ?_
          rintro _ m302 ⟨r303, rfl, hr303a, hr303b, hIm302, gm302⟩
          have hFm302 : zFr W_0 m0 m302 := hFm300.trans gm302 rfl
          show zW E (d) 0 909 [(6, 0), (2, 0), (2, 69), (0, i2)] [(0, r303)] m302 Q
          have hkz304_0 := zk_fr hv0lp18_4 gm300
          have hkz304_1 := zk_fr hkz304_0 gm302
          refine zw_115 zr_0_909 rfl ?_
          refine zw_42 zr_0_910 ?_
          refine zw_15 (c := 6) (L' := [(6, 0), (2, 0), (2, 69), (0, (i2 + 6))]) zr_0_1239 rfl (by decide) (by omega) rfl ?_
          refine zw_42 zr_0_1242 ?_
          exact zw_less (L := [(6, 0), (2, 0), (2, 69), (0, (i2 + 6))]) ⟨Or.inr rfl, Or.inr rfl, Or.inr rfl, Or.inr rfl, trivial⟩ (ihlp18_4 ((i2 + 6)) m302 hIm302 hFm302   (by omega) (by omega) (by assumption) (by omega))
        by_cases h306 : x9 = 22
        · refine zw_111 (t := 913) zr_0_33 (by rw [h306]; rfl) ?_
          refine zw_7 zr_0_913 rfl ?_
          obtain ⟨f307, ef307⟩ : ∃ v, m3 1 0 = v := ⟨_, rfl⟩
          have bf307 := ib_1_0 hIm3
          rw [ef307] at bf307
          obtain ⟨f308, ef308⟩ : ∃ v, m3 1 1 = v := ⟨_, rfl⟩
          have bf308 := ib_1_1 hIm3
          rw [ef308] at bf308
          obtain ⟨f309, ef309⟩ : ∃ v, m3 1 2 = v := ⟨_, rfl⟩
          have bf309 := ib_1_2 hIm3
          rw [ef309] at bf309
          refine zw_C zr_0_914 (Or.inl rfl) zm_124 rfl rfl ⟨Nat.le_of_ble_eq_true rfl, Nat.le_of_ble_eq_true rfl, Nat.le_of_ble_eq_true rfl, rfl, by decide⟩ (by omega) (th_124 (d := d - 1) (by omega) hIm3  (g0 := f307) (g1 := f308) (g2 := f309)  (F6 := m3 6) (F7 := m3 7) (F8 := m3 8) ef307 ef308 ef309 rfl rfl rfl  ) ?_
          rintro _ m310 ⟨r311, rfl, hr311a, hr311b, hIm310, gm310, po0_r311⟩
          have hFm310 : zFr W_0 m0 m310 := hFm3.trans gm310 rfl
          have km310_1_0 : m310 1 0 = f307 := (gm310 1 0 rfl).trans ef307
          have km310_1_1 : m310 1 1 = f308 := (gm310 1 1 rfl).trans ef308
          have km310_1_2 : m310 1 2 = f309 := (gm310 1 2 rfl).trans ef309
          show zW E (d) 0 917 [(6, 0), (2, 0), (2, 69), (0, i2)] [(0, r311)] m310 Q
          refine zw_115 zr_0_917 rfl ?_
          refine zw_7 zr_0_918 rfl ?_
          obtain ⟨f312, ef312⟩ : ∃ v, m310 70 822 = v := ⟨_, rfl⟩
          have bf312 : 0 ≤ m310 70 822 ∧ m310 70 822 ≤ 10 := ib_70_players hIm310 (by omega)
          rw [ef312] at bf312
          refine zw_C zr_0_919 (Or.inl rfl) zm_198 rfl rfl ⟨Nat.le_of_ble_eq_true rfl, Nat.le_of_ble_eq_true rfl, Nat.le_of_ble_eq_true rfl, rfl, by decide⟩ (by omega) (th_198 (d := d - 1) (by omega) hIm310  (g0 := f312)  (F70 := m310 70) ef312 rfl  ) ?_
          rintro _ _ ⟨r313, rfl, hr313a, hr313b, rfl, po0_r313⟩
          show zW E (d) 0 922 [(6, 0), (2, 0), (2, 69), (0, i2)] [(0, r313)] m310 Q
          have hkz314_0 := zk_fr hv0lp18_4 gm310
          have hqz315 := zq_rounds hIm3 hv0lp18_4 gm310 ef307 ef308 ef309 po0_r311 ef312 po0_r313
          refine zw_115 zr_0_922 rfl ?_
          refine zw_42 zr_0_923 ?_
          refine zw_15 (c := 6) (L' := [(6, 0), (2, 0), (2, 69), (0, (i2 + 6))]) zr_0_1239 rfl (by decide) (by omega) rfl ?_
          refine zw_42 zr_0_1242 ?_
          exact zw_less (L := [(6, 0), (2, 0), (2, 69), (0, (i2 + 6))]) ⟨Or.inr rfl, Or.inr rfl, Or.inr rfl, Or.inr rfl, trivial⟩ (ihlp18_4 ((i2 + 6)) m310 hIm310 hFm310   (by omega) (by omega) (by assumption) (by omega))
        by_cases h317 : x9 = 23
        · refine zw_111 (t := 926) zr_0_33 (by rw [h317]; rfl) ?_
          refine zw_7 zr_0_926 rfl ?_
          refine zw_7s zr_0_927 rfl ?_
          refine zw_3 zr_0_928 rfl ?_
          refine zw_push zr_0_929 ?_
          refine zw_16 zr_0_930 (by omega) ?_
          refine zw_100 zr_0_931 rfl (by omega) (by omega) ?_
          intro x318 ex318 hx318a hx318b
          obtain ⟨f319, ef319⟩ : ∃ v, m3 1 0 = v := ⟨_, rfl⟩
          have bf319 := ib_1_0 hIm3
          rw [ef319] at bf319
          obtain ⟨f320, ef320⟩ : ∃ v, m3 1 1 = v := ⟨_, rfl⟩
          have bf320 := ib_1_1 hIm3
          rw [ef320] at bf320
          obtain ⟨f321, ef321⟩ : ∃ v, m3 1 2 = v := ⟨_, rfl⟩
          have bf321 := ib_1_2 hIm3
          rw [ef321] at bf321
          refine zw_C zr_0_932 (Or.inl rfl) zm_125 rfl rfl ⟨Nat.le_of_ble_eq_true rfl, Nat.le_of_ble_eq_true rfl, Nat.le_of_ble_eq_true rfl, rfl, by decide⟩ (by omega) (th_125 (d := d - 1) (by omega) hIm3 (a0 := x318) (g0 := f319) (g1 := f320) (g2 := f321)  (F6 := m3 6) (F7 := m3 7) (F8 := m3 8) (F64 := m3 64) ef319 ef320 ef321 rfl rfl rfl rfl (by omega) ) ?_
          rintro _ m322 ⟨r323, rfl, hr323a, hr323b, hIm322, gm322, po0_r323⟩
          have hFm322 : zFr W_0 m0 m322 := hFm3.trans gm322 rfl
          have km322_1_0 : m322 1 0 = f319 := (gm322 1 0 rfl).trans ef319
          have km322_1_1 : m322 1 1 = f320 := (gm322 1 1 rfl).trans ef320
          have km322_1_2 : m322 1 2 = f321 := (gm322 1 2 rfl).trans ef321
          show zW E (d) 0 935 [(6, 0), (2, 0), (2, 69), (0, i2)] [(0, r323)] m322 Q
          refine zw_115 zr_0_935 rfl ?_
          refine zw_7 zr_0_936 rfl ?_
          refine zw_7s zr_0_937 rfl ?_
          refine zw_3 zr_0_938 rfl ?_
          refine zw_push zr_0_939 ?_
          refine zw_16 zr_0_940 (by omega) ?_
          refine zw_100k zr_0_941 rfl (by omega) (by omega) ex318.symm ?_
          obtain ⟨f324, ef324⟩ : ∃ v, m322 70 822 = v := ⟨_, rfl⟩
          have bf324 : 0 ≤ m322 70 822 ∧ m322 70 822 ≤ 10 := ib_70_players hIm322 (by omega)
          rw [ef324] at bf324
          obtain ⟨f325, ef325⟩ : ∃ v, m322 70 823 = v := ⟨_, rfl⟩
          have bf325 : 0 ≤ m322 70 823 ∧ m322 70 823 ≤ 60 := ib_70_meetings hIm322 (by omega)
          rw [ef325] at bf325
          refine zw_C zr_0_942 (Or.inl rfl) zm_199 rfl rfl ⟨Nat.le_of_ble_eq_true rfl, Nat.le_of_ble_eq_true rfl, Nat.le_of_ble_eq_true rfl, rfl, by decide⟩ (by omega) (th_199 (d := d - 1) (by omega) hIm322 (a0 := x318) (g0 := f324) (g1 := f325)  (F70 := m322 70) (F83 := m322 83) (F84 := m322 84) ef324 ef325 rfl rfl rfl (by omega) ) ?_
          rintro _ m326 ⟨r327, rfl, hr327a, hr327b, hIm326, gm326, po0_r327⟩
          have hFm326 : zFr W_0 m0 m326 := hFm322.trans gm326 rfl
          have km326_1_0 : m326 1 0 = f319 := (gm326 1 0 rfl).trans km322_1_0
          have km326_1_1 : m326 1 1 = f320 := (gm326 1 1 rfl).trans km322_1_1
          have km326_1_2 : m326 1 2 = f321 := (gm326 1 2 rfl).trans km322_1_2
          have km326_70_822 : m326 70 822 = f324 := (gm326 70 822 rfl).trans ef324
          have km326_70_823 : m326 70 823 = f325 := (gm326 70 823 rfl).trans ef325
          show zW E (d) 0 945 [(6, 0), (2, 0), (2, 69), (0, i2)] [(0, r327)] m326 Q
          have hkz328_0 := zk_fr hv0lp18_4 gm322
          have hkz328_1 := zk_fr hkz328_0 gm326
          have hqz329 := zq_ways hIm3 hv0lp18_4 gm322 ef319 ef320 ef321 po0_r323 ef324 ef325 po0_r327
          refine zw_115 zr_0_945 rfl ?_
          refine zw_42 zr_0_946 ?_
          refine zw_15 (c := 6) (L' := [(6, 0), (2, 0), (2, 69), (0, (i2 + 6))]) zr_0_1239 rfl (by decide) (by omega) rfl ?_
          refine zw_42 zr_0_1242 ?_
          exact zw_less (L := [(6, 0), (2, 0), (2, 69), (0, (i2 + 6))]) ⟨Or.inr rfl, Or.inr rfl, Or.inr rfl, Or.inr rfl, trivial⟩ (ihlp18_4 ((i2 + 6)) m326 hIm326 hFm326   (by omega) (by omega) (by assumption) (by omega))
        by_cases h331 : x9 = 24
        · refine zw_111 (t := 949) zr_0_33 (by rw [h331]; rfl) ?_
          refine zw_7 zr_0_949 rfl ?_
          refine zw_7s zr_0_950 rfl ?_
          refine zw_3 zr_0_951 rfl ?_
          refine zw_push zr_0_952 ?_
          refine zw_16 zr_0_953 (by omega) ?_
          refine zw_100 zr_0_954 rfl (by omega) (by omega) ?_
          intro x332 ex332 hx332a hx332b
          refine zw_7s zr_0_955 rfl ?_
          refine zw_3 zr_0_956 rfl ?_
          refine zw_push zr_0_957 ?_
          refine zw_16 zr_0_958 (by omega) ?_
          refine zw_100 zr_0_959 rfl (by omega) (by omega) ?_
          intro x333 ex333 hx333a hx333b
          refine zw_7s zr_0_960 rfl ?_
          refine zw_3 zr_0_961 rfl ?_
          refine zw_push zr_0_962 ?_
          refine zw_16 zr_0_963 (by omega) ?_
          refine zw_100 zr_0_964 rfl (by omega) (by omega) ?_
          intro x334 ex334 hx334a hx334b
          refine zw_7s zr_0_965 rfl ?_
          refine zw_3 zr_0_966 rfl ?_
          refine zw_push zr_0_967 ?_
          refine zw_16 zr_0_968 (by omega) ?_
          refine zw_100 zr_0_969 rfl (by omega) (by omega) ?_
          intro x335 ex335 hx335a hx335b
          obtain ⟨f336, ef336⟩ : ∃ v, m3 1 0 = v := ⟨_, rfl⟩
          have bf336 := ib_1_0 hIm3
          rw [ef336] at bf336
          refine zw_C zr_0_970 (Or.inl rfl) zm_126 rfl rfl ⟨Nat.le_of_ble_eq_true rfl, Nat.le_of_ble_eq_true rfl, Nat.le_of_ble_eq_true rfl, rfl, by decide⟩ (by omega) (th_126 (d := d - 1) (by omega) hIm3 (a0 := x332) (a1 := x333) (a2 := x334) (a3 := x335) (g0 := f336)  (F6 := m3 6) (F7 := m3 7) ef336 rfl rfl (by omega) (by omega) (by omega) (by omega) ) ?_
          rintro _ m337 ⟨r338, rfl, hr338a, hr338b, hIm337, gm337, po0_r338⟩
          have hFm337 : zFr W_0 m0 m337 := hFm3.trans gm337 rfl
          have km337_1_0 : m337 1 0 = f336 := (gm337 1 0 rfl).trans ef336
          show zW E (d) 0 973 [(6, 0), (2, 0), (2, 69), (0, i2)] [(0, r338)] m337 Q
          refine zw_115 zr_0_973 rfl ?_
          refine zw_7 zr_0_974 rfl ?_
          refine zw_7s zr_0_975 rfl ?_
          refine zw_3 zr_0_976 rfl ?_
          refine zw_push zr_0_977 ?_
          refine zw_16 zr_0_978 (by omega) ?_
          refine zw_100k zr_0_979 rfl (by omega) (by omega) ex332.symm ?_
          refine zw_7s zr_0_980 rfl ?_
          refine zw_3 zr_0_981 rfl ?_
          refine zw_push zr_0_982 ?_
          refine zw_16 zr_0_983 (by omega) ?_
          refine zw_100k zr_0_984 rfl (by omega) (by omega) ex333.symm ?_
          refine zw_7s zr_0_985 rfl ?_
          refine zw_3 zr_0_986 rfl ?_
          refine zw_push zr_0_987 ?_
          refine zw_16 zr_0_988 (by omega) ?_
          refine zw_100k zr_0_989 rfl (by omega) (by omega) ex334.symm ?_
          refine zw_7s zr_0_990 rfl ?_
          refine zw_3 zr_0_991 rfl ?_
          refine zw_push zr_0_992 ?_
          refine zw_16 zr_0_993 (by omega) ?_
          refine zw_100k zr_0_994 rfl (by omega) (by omega) ex335.symm ?_
          obtain ⟨f339, ef339⟩ : ∃ v, m337 70 822 = v := ⟨_, rfl⟩
          have bf339 : 0 ≤ m337 70 822 ∧ m337 70 822 ≤ 10 := ib_70_players hIm337 (by omega)
          rw [ef339] at bf339
          refine zw_C zr_0_995 (Or.inl rfl) zm_202 rfl rfl ⟨Nat.le_of_ble_eq_true rfl, Nat.le_of_ble_eq_true rfl, Nat.le_of_ble_eq_true rfl, rfl, by decide⟩ (by omega) (th_202 (d := d - 1) (by omega) hIm337 (a0 := x332) (a1 := x333) (a2 := x334) (a3 := x335) (g0 := f339)  (F70 := m337 70) ef339 rfl (by omega) (by omega) (by omega) (by omega) ) ?_
          rintro _ m340 ⟨r341, rfl, hr341a, hr341b, hIm340, gm340, po0_r341⟩
          have hFm340 : zFr W_0 m0 m340 := hFm337.trans gm340 rfl
          have km340_1_0 : m340 1 0 = f336 := (gm340 1 0 rfl).trans km337_1_0
          have km340_70_822 : m340 70 822 = f339 := (gm340 70 822 rfl).trans ef339
          show zW E (d) 0 998 [(6, 0), (2, 0), (2, 69), (0, i2)] [(0, r341)] m340 Q
          have hkz342_0 := zk_fr hv0lp18_4 gm337
          have hkz342_1 := zk_fr hkz342_0 gm340
          have hqz343 := zq_even hIm3 hv0lp18_4 gm337 ef336 po0_r338 ef339 po0_r341
          refine zw_115 zr_0_998 rfl ?_
          refine zw_42 zr_0_999 ?_
          refine zw_15 (c := 6) (L' := [(6, 0), (2, 0), (2, 69), (0, (i2 + 6))]) zr_0_1239 rfl (by decide) (by omega) rfl ?_
          refine zw_42 zr_0_1242 ?_
          exact zw_less (L := [(6, 0), (2, 0), (2, 69), (0, (i2 + 6))]) ⟨Or.inr rfl, Or.inr rfl, Or.inr rfl, Or.inr rfl, trivial⟩ (ihlp18_4 ((i2 + 6)) m340 hIm340 hFm340   (by omega) (by omega) (by assumption) (by omega))
        by_cases h345 : x9 = 25
        · refine zw_111 (t := 1002) zr_0_33 (by rw [h345]; rfl) ?_
          refine zw_7 zr_0_1002 rfl ?_
          refine zw_C zr_0_1003 (Or.inl rfl) zm_127 rfl rfl ⟨Nat.le_of_ble_eq_true rfl, Nat.le_of_ble_eq_true rfl, Nat.le_of_ble_eq_true rfl, rfl, by decide⟩ (by omega) (th_127 (d := d - 1) (by omega) hIm3        ) ?_
          rintro _ _ ⟨r346, rfl, hr346a, hr346b, rfl⟩
          show zW E (d) 0 1006 [(6, 0), (2, 0), (2, 69), (0, i2)] [(0, r346)] m3 Q
          refine zw_115 zr_0_1006 rfl ?_
          refine zw_7 zr_0_1007 rfl ?_
          refine zw_C zr_0_1008 (Or.inl rfl) zm_203 rfl rfl ⟨Nat.le_of_ble_eq_true rfl, Nat.le_of_ble_eq_true rfl, Nat.le_of_ble_eq_true rfl, rfl, by decide⟩ (by omega) (th_203 (d := d - 1) (by omega) hIm3        ) ?_
          rintro _ _ ⟨r347, rfl, hr347a, hr347b, rfl⟩
          show zW E (d) 0 1011 [(6, 0), (2, 0), (2, 69), (0, i2)] [(0, r347)] m3 Q
          refine zw_115 zr_0_1011 rfl ?_
          refine zw_42 zr_0_1012 ?_
          refine zw_15 (c := 6) (L' := [(6, 0), (2, 0), (2, 69), (0, (i2 + 6))]) zr_0_1239 rfl (by decide) (by omega) rfl ?_
          refine zw_42 zr_0_1242 ?_
          exact zw_less (L := [(6, 0), (2, 0), (2, 69), (0, (i2 + 6))]) ⟨Or.inr rfl, Or.inr rfl, Or.inr rfl, Or.inr rfl, trivial⟩ (ihlp18_4 ((i2 + 6)) m3 hIm3 hFm3   (by omega) (by omega) (by assumption) (by omega))
        by_cases h350 : x9 = 26
        · refine zw_111 (t := 1015) zr_0_33 (by rw [h350]; rfl) ?_
          refine zw_7 zr_0_1015 rfl ?_
          refine zw_7s zr_0_1016 rfl ?_
          refine zw_3 zr_0_1017 rfl ?_
          refine zw_push zr_0_1018 ?_
          refine zw_16 zr_0_1019 (by omega) ?_
          refine zw_100 zr_0_1020 rfl (by omega) (by omega) ?_
          intro x351 ex351 hx351a hx351b
          refine zw_7s zr_0_1021 rfl ?_
          refine zw_3 zr_0_1022 rfl ?_
          refine zw_push zr_0_1023 ?_
          refine zw_16 zr_0_1024 (by omega) ?_
          refine zw_100 zr_0_1025 rfl (by omega) (by omega) ?_
          intro x352 ex352 hx352a hx352b
          refine zw_7s zr_0_1026 rfl ?_
          refine zw_3 zr_0_1027 rfl ?_
          refine zw_push zr_0_1028 ?_
          refine zw_16 zr_0_1029 (by omega) ?_
          refine zw_100 zr_0_1030 rfl (by omega) (by omega) ?_
          intro x353 ex353 hx353a hx353b
          refine zw_7s zr_0_1031 rfl ?_
          refine zw_3 zr_0_1032 rfl ?_
          refine zw_push zr_0_1033 ?_
          refine zw_16 zr_0_1034 (by omega) ?_
          refine zw_100 zr_0_1035 rfl (by omega) (by omega) ?_
          intro x354 ex354 hx354a hx354b
          obtain ⟨f355, ef355⟩ : ∃ v, m3 1 0 = v := ⟨_, rfl⟩
          have bf355 := ib_1_0 hIm3
          rw [ef355] at bf355
          refine zw_C zr_0_1036 (Or.inl rfl) zm_129 rfl rfl ⟨Nat.le_of_ble_eq_true rfl, Nat.le_of_ble_eq_true rfl, Nat.le_of_ble_eq_true rfl, rfl, by decide⟩ (by omega) (th_129 (d := d - 1) (by omega) hIm3 (a0 := x351) (a1 := x352) (a2 := x353) (a3 := x354) (g0 := f355)  (F3 := m3 3) (F4 := m3 4) ef355 rfl rfl (by omega) (by omega) (by omega) (by omega) ) ?_
          rintro _ m356 ⟨r357, rfl, hr357a, hr357b, hIm356, gm356, po0_r357, po1_r357, po2_r357⟩
          have hFm356 : zFr W_0 m0 m356 := hFm3.trans gm356 rfl
          have km356_1_0 : m356 1 0 = f355 := (gm356 1 0 rfl).trans ef355
          show zW E (d) 0 1039 [(6, 0), (2, 0), (2, 69), (0, i2)] [(0, r357)] m356 Q
          refine zw_115 zr_0_1039 rfl ?_
          refine zw_7 zr_0_1040 rfl ?_
          refine zw_7s zr_0_1041 rfl ?_
          refine zw_3 zr_0_1042 rfl ?_
          refine zw_push zr_0_1043 ?_
          refine zw_16 zr_0_1044 (by omega) ?_
          refine zw_100k zr_0_1045 rfl (by omega) (by omega) ex351.symm ?_
          refine zw_7s zr_0_1046 rfl ?_
          refine zw_3 zr_0_1047 rfl ?_
          refine zw_push zr_0_1048 ?_
          refine zw_16 zr_0_1049 (by omega) ?_
          refine zw_100k zr_0_1050 rfl (by omega) (by omega) ex352.symm ?_
          refine zw_7s zr_0_1051 rfl ?_
          refine zw_3 zr_0_1052 rfl ?_
          refine zw_push zr_0_1053 ?_
          refine zw_16 zr_0_1054 (by omega) ?_
          refine zw_100k zr_0_1055 rfl (by omega) (by omega) ex353.symm ?_
          refine zw_7s zr_0_1056 rfl ?_
          refine zw_3 zr_0_1057 rfl ?_
          refine zw_push zr_0_1058 ?_
          refine zw_16 zr_0_1059 (by omega) ?_
          refine zw_100k zr_0_1060 rfl (by omega) (by omega) ex354.symm ?_
          obtain ⟨f358, ef358⟩ : ∃ v, m356 70 822 = v := ⟨_, rfl⟩
          have bf358 : 0 ≤ m356 70 822 ∧ m356 70 822 ≤ 10 := ib_70_players hIm356 (by omega)
          rw [ef358] at bf358
          refine zw_C zr_0_1061 (Or.inl rfl) zm_204 rfl rfl ⟨Nat.le_of_ble_eq_true rfl, Nat.le_of_ble_eq_true rfl, Nat.le_of_ble_eq_true rfl, rfl, by decide⟩ (by omega) (th_204 (d := d - 1) (by omega) hIm356 (a0 := x351) (a1 := x352) (a2 := x353) (a3 := x354) (g0 := f358)  (F70 := m356 70) ef358 rfl (by omega) (by omega) (by omega) (by omega) ) ?_
          rintro _ m359 ⟨r360, rfl, hr360a, hr360b, hIm359, gm359, po0_r360, po1_r360⟩
          have hFm359 : zFr W_0 m0 m359 := hFm356.trans gm359 rfl
          have km359_1_0 : m359 1 0 = f355 := (gm359 1 0 rfl).trans km356_1_0
          show zW E (d) 0 1064 [(6, 0), (2, 0), (2, 69), (0, i2)] [(0, r360)] m359 Q
          obtain ⟨hkz361, hrz361⟩ := zk_moves hIm3 hv0lp18_4 gm356 ef355 po0_r357 po1_r357 po2_r357 gm359 ef358 po0_r360 po1_r360
          refine zw_115 zr_0_1064 rfl ?_
          refine zw_42 zr_0_1065 ?_
          refine zw_15 (c := 6) (L' := [(6, 0), (2, 0), (2, 69), (0, (i2 + 6))]) zr_0_1239 rfl (by decide) (by omega) rfl ?_
          refine zw_42 zr_0_1242 ?_
          exact zw_less (L := [(6, 0), (2, 0), (2, 69), (0, (i2 + 6))]) ⟨Or.inr rfl, Or.inr rfl, Or.inr rfl, Or.inr rfl, trivial⟩ (ihlp18_4 ((i2 + 6)) m359 hIm359 hFm359   (by omega) (by omega) (by assumption) (by omega))
        by_cases h363 : x9 = 27
        · refine zw_111 (t := 1068) zr_0_33 (by rw [h363]; rfl) ?_
          refine zw_7 zr_0_1068 rfl ?_
          refine zw_7s zr_0_1069 rfl ?_
          refine zw_3 zr_0_1070 rfl ?_
          refine zw_push zr_0_1071 ?_
          refine zw_16 zr_0_1072 (by omega) ?_
          refine zw_100 zr_0_1073 rfl (by omega) (by omega) ?_
          intro x364 ex364 hx364a hx364b
          refine zw_7s zr_0_1074 rfl ?_
          refine zw_3 zr_0_1075 rfl ?_
          refine zw_push zr_0_1076 ?_
          refine zw_16 zr_0_1077 (by omega) ?_
          refine zw_100 zr_0_1078 rfl (by omega) (by omega) ?_
          intro x365 ex365 hx365a hx365b
          refine zw_C zr_0_1079 (Or.inl rfl) zm_130 rfl rfl ⟨Nat.le_of_ble_eq_true rfl, Nat.le_of_ble_eq_true rfl, Nat.le_of_ble_eq_true rfl, rfl, by decide⟩ (by omega) (th_130 (d := d - 1) (by omega) hIm3 (a0 := x364) (a1 := x365)   (F13 := m3 13)  rfl (by omega) (by omega) ) ?_
          rintro _ m366 ⟨r367, rfl, hr367a, hr367b, hIm366, gm366, po0_r367, po1_r367⟩
          have hFm366 : zFr W_0 m0 m366 := hFm3.trans gm366 rfl
          show zW E (d) 0 1082 [(6, 0), (2, 0), (2, 69), (0, i2)] [(0, r367)] m366 Q
          refine zw_115 zr_0_1082 rfl ?_
          refine zw_7 zr_0_1083 rfl ?_
          refine zw_7s zr_0_1084 rfl ?_
          refine zw_3 zr_0_1085 rfl ?_
          refine zw_push zr_0_1086 ?_
          refine zw_16 zr_0_1087 (by omega) ?_
          refine zw_100k zr_0_1088 rfl (by omega) (by omega) ex364.symm ?_
          refine zw_7s zr_0_1089 rfl ?_
          refine zw_3 zr_0_1090 rfl ?_
          refine zw_push zr_0_1091 ?_
          refine zw_16 zr_0_1092 (by omega) ?_
          refine zw_100k zr_0_1093 rfl (by omega) (by omega) ex365.symm ?_
          refine zw_C zr_0_1094 (Or.inl rfl) zm_205 rfl rfl ⟨Nat.le_of_ble_eq_true rfl, Nat.le_of_ble_eq_true rfl, Nat.le_of_ble_eq_true rfl, rfl, by decide⟩ (by omega) (th_205 (d := d - 1) (by omega) hIm366 (a0 := x364) (a1 := x365)   (F70 := m366 70)  rfl (by omega) (by omega) ) ?_
          rintro _ m368 ⟨r369, rfl, hr369a, hr369b, hIm368, gm368, po0_r369, po1_r369⟩
          have hFm368 : zFr W_0 m0 m368 := hFm366.trans gm368 rfl
          show zW E (d) 0 1097 [(6, 0), (2, 0), (2, 69), (0, i2)] [(0, r369)] m368 Q
          obtain ⟨hkz370, hrz370⟩ := zk_weight hIm3 hv0lp18_4 gm366 po0_r367 po1_r367 gm368 po0_r369 po1_r369
          refine zw_115 zr_0_1097 rfl ?_
          refine zw_42 zr_0_1098 ?_
          refine zw_15 (c := 6) (L' := [(6, 0), (2, 0), (2, 69), (0, (i2 + 6))]) zr_0_1239 rfl (by decide) (by omega) rfl ?_
          refine zw_42 zr_0_1242 ?_
          exact zw_less (L := [(6, 0), (2, 0), (2, 69), (0, (i2 + 6))]) ⟨Or.inr rfl, Or.inr rfl, Or.inr rfl, Or.inr rfl, trivial⟩ (ihlp18_4 ((i2 + 6)) m368 hIm368 hFm368   (by omega) (by omega) (by assumption) (by omega))
        by_cases h372 : x9 = 28
        · refine zw_111 (t := 1101) zr_0_33 (by rw [h372]; rfl) ?_
          refine zw_7 zr_0_1101 rfl ?_
          refine zw_7s zr_0_1102 rfl ?_
          refine zw_3 zr_0_1103 rfl ?_
          refine zw_push zr_0_1104 ?_
          refine zw_16 zr_0_1105 (by omega) ?_
          refine zw_100 zr_0_1106 rfl (by omega) (by omega) ?_
          intro x373 ex373 hx373a hx373b
          refine zw_7s zr_0_1107 rfl ?_
          refine zw_3 zr_0_1108 rfl ?_
          refine zw_push zr_0_1109 ?_
          refine zw_16 zr_0_1110 (by omega) ?_
          refine zw_100 zr_0_1111 rfl (by omega) (by omega) ?_
          intro x374 ex374 hx374a hx374b
          obtain ⟨f375, ef375⟩ : ∃ v, m3 1 0 = v := ⟨_, rfl⟩
          have bf375 := ib_1_0 hIm3
          rw [ef375] at bf375
          refine zw_C zr_0_1112 (Or.inl rfl) zm_132 rfl rfl ⟨Nat.le_of_ble_eq_true rfl, Nat.le_of_ble_eq_true rfl, Nat.le_of_ble_eq_true rfl, rfl, by decide⟩ (by omega) (th_132 (d := d - 1) (by omega) hIm3 (a0 := x373) (a1 := x374) (g0 := f375)  (F4 := m3 4) ef375 rfl (by omega) (by omega) ) ?_
          rintro _ m376 ⟨r377, rfl, hr377a, hr377b, hIm376, gm376, po0_r377⟩
          have hFm376 : zFr W_0 m0 m376 := hFm3.trans gm376 rfl
          have km376_1_0 : m376 1 0 = f375 := (gm376 1 0 rfl).trans ef375
          show zW E (d) 0 1115 [(6, 0), (2, 0), (2, 69), (0, i2)] [(0, r377)] m376 Q
          refine zw_115 zr_0_1115 rfl ?_
          refine zw_7 zr_0_1116 rfl ?_
          refine zw_7s zr_0_1117 rfl ?_
          refine zw_3 zr_0_1118 rfl ?_
          refine zw_push zr_0_1119 ?_
          refine zw_16 zr_0_1120 (by omega) ?_
          refine zw_100k zr_0_1121 rfl (by omega) (by omega) ex373.symm ?_
          refine zw_7s zr_0_1122 rfl ?_
          refine zw_3 zr_0_1123 rfl ?_
          refine zw_push zr_0_1124 ?_
          refine zw_16 zr_0_1125 (by omega) ?_
          refine zw_100k zr_0_1126 rfl (by omega) (by omega) ex374.symm ?_
          obtain ⟨f378, ef378⟩ : ∃ v, m376 70 822 = v := ⟨_, rfl⟩
          have bf378 : 0 ≤ m376 70 822 ∧ m376 70 822 ≤ 10 := ib_70_players hIm376 (by omega)
          rw [ef378] at bf378
          refine zw_C zr_0_1127 (Or.inl rfl) zm_206 rfl rfl ⟨Nat.le_of_ble_eq_true rfl, Nat.le_of_ble_eq_true rfl, Nat.le_of_ble_eq_true rfl, rfl, by decide⟩ (by omega) (th_206 (d := d - 1) (by omega) hIm376 (a0 := x373) (a1 := x374) (g0 := f378)  (F70 := m376 70) ef378 rfl (by omega) (by omega) ) ?_
          rintro _ m379 ⟨r380, rfl, hr380a, hr380b, hIm379, gm379, po0_r380⟩
          have hFm379 : zFr W_0 m0 m379 := hFm376.trans gm379 rfl
          have km379_1_0 : m379 1 0 = f375 := (gm379 1 0 rfl).trans km376_1_0
          have km379_70_822 : m379 70 822 = f378 := (gm379 70 822 rfl).trans ef378
          show zW E (d) 0 1130 [(6, 0), (2, 0), (2, 69), (0, i2)] [(0, r380)] m379 Q
          have hkz381_0 := zk_fr hv0lp18_4 gm376
          have hkz381_1 := zk_fr hkz381_0 gm379
          have hqz382 := zq_share hIm3 hv0lp18_4 gm376 ef375 po0_r377 ef378 po0_r380
          refine zw_115 zr_0_1130 rfl ?_
          refine zw_42 zr_0_1131 ?_
          refine zw_15 (c := 6) (L' := [(6, 0), (2, 0), (2, 69), (0, (i2 + 6))]) zr_0_1239 rfl (by decide) (by omega) rfl ?_
          refine zw_42 zr_0_1242 ?_
          exact zw_less (L := [(6, 0), (2, 0), (2, 69), (0, (i2 + 6))]) ⟨Or.inr rfl, Or.inr rfl, Or.inr rfl, Or.inr rfl, trivial⟩ (ihlp18_4 ((i2 + 6)) m379 hIm379 hFm379   (by omega) (by omega) (by assumption) (by omega))
        by_cases h384 : x9 = 29
        · refine zw_111 (t := 1134) zr_0_33 (by rw [h384]; rfl) ?_
          refine zw_7 zr_0_1134 rfl ?_
          refine zw_7s zr_0_1135 rfl ?_
          refine zw_3 zr_0_1136 rfl ?_
          refine zw_push zr_0_1137 ?_
          refine zw_16 zr_0_1138 (by omega) ?_
          refine zw_100 zr_0_1139 rfl (by omega) (by omega) ?_
          intro x385 ex385 hx385a hx385b
          refine zw_C zr_0_1140 (Or.inl rfl) zm_133 rfl rfl ⟨Nat.le_of_ble_eq_true rfl, Nat.le_of_ble_eq_true rfl, Nat.le_of_ble_eq_true rfl, rfl, by decide⟩ (by omega) (th_133 (d := d - 1) (by omega) hIm3 (a0 := x385)      (by omega) ) ?_
          rintro _ _ ⟨r386, rfl, hr386a, hr386b, rfl⟩
          show zW E (d) 0 1143 [(6, 0), (2, 0), (2, 69), (0, i2)] [(1, r386)] m3 Q
          refine zw_116 zr_0_1143 rfl ?_
          refine zw_7 zr_0_1144 rfl ?_
          refine zw_7s zr_0_1145 rfl ?_
          refine zw_3 zr_0_1146 rfl ?_
          refine zw_push zr_0_1147 ?_
          refine zw_16 zr_0_1148 (by omega) ?_
          refine zw_100k zr_0_1149 rfl (by omega) (by omega) ex385.symm ?_
          refine zw_C zr_0_1150 (Or.inl rfl) zm_207 rfl rfl ⟨Nat.le_of_ble_eq_true rfl, Nat.le_of_ble_eq_true rfl, Nat.le_of_ble_eq_true rfl, rfl, by decide⟩ (by omega) (th_207 (d := d - 1) (by omega) hIm3 (a0 := x385)      (by omega) ) ?_
          rintro _ _ ⟨r387, rfl, hr387a, hr387b, rfl⟩
          show zW E (d) 0 1153 [(6, 0), (2, 0), (2, 69), (0, i2)] [(1, r387)] m3 Q
          refine zw_116 zr_0_1153 rfl ?_
          refine zw_42 zr_0_1154 ?_
          refine zw_15 (c := 6) (L' := [(6, 0), (2, 0), (2, 69), (0, (i2 + 6))]) zr_0_1239 rfl (by decide) (by omega) rfl ?_
          refine zw_42 zr_0_1242 ?_
          exact zw_less (L := [(6, 0), (2, 0), (2, 69), (0, (i2 + 6))]) ⟨Or.inr rfl, Or.inr rfl, Or.inr rfl, Or.inr rfl, trivial⟩ (ihlp18_4 ((i2 + 6)) m3 hIm3 hFm3   (by omega) (by omega) (by assumption) (by omega))
        by_cases h390 : x9 = 30
        · refine zw_111 (t := 1157) zr_0_33 (by rw [h390]; rfl) ?_
          refine zw_7 zr_0_1157 rfl ?_
          refine zw_7s zr_0_1158 rfl ?_
          refine zw_3 zr_0_1159 rfl ?_
          refine zw_push zr_0_1160 ?_
          refine zw_16 zr_0_1161 (by omega) ?_
          refine zw_100 zr_0_1162 rfl (by omega) (by omega) ?_
          intro x391 ex391 hx391a hx391b
          refine zw_C zr_0_1163 (Or.inl rfl) zm_134 rfl rfl ⟨Nat.le_of_ble_eq_true rfl, Nat.le_of_ble_eq_true rfl, Nat.le_of_ble_eq_true rfl, rfl, by decide⟩ (by omega) (th_134 (d := d - 1) (by omega) hIm3 (a0 := x391)      (by omega) ) ?_
          rintro _ m392 ⟨r393, rfl, hr393a, hr393b, hIm392, gm392, po0_r393⟩
          have hFm392 : zFr W_0 m0 m392 := hFm3.trans gm392 rfl
          show zW E (d) 0 1166 [(6, 0), (2, 0), (2, 69), (0, i2)] [(0, r393)] m392 Q
          refine zw_115 zr_0_1166 rfl ?_
          refine zw_7 zr_0_1167 rfl ?_
          refine zw_7s zr_0_1168 rfl ?_
          refine zw_3 zr_0_1169 rfl ?_
          refine zw_push zr_0_1170 ?_
          refine zw_16 zr_0_1171 (by omega) ?_
          refine zw_100k zr_0_1172 rfl (by omega) (by omega) ex391.symm ?_
          refine zw_C zr_0_1173 (Or.inl rfl) zm_208 rfl rfl ⟨Nat.le_of_ble_eq_true rfl, Nat.le_of_ble_eq_true rfl, Nat.le_of_ble_eq_true rfl, rfl, by decide⟩ (by omega) (th_208 (d := d - 1) (by omega) hIm392 (a0 := x391)   (F70 := m392 70) (F71 := m392 71) (F72 := m392 72)  rfl rfl rfl (by omega) ) ?_
          rintro _ m394 ⟨r395, rfl, hr395a, hr395b, hIm394, gm394, po0_r395⟩
          have hFm394 : zFr W_0 m0 m394 := hFm392.trans gm394 rfl
          show zW E (d) 0 1176 [(6, 0), (2, 0), (2, 69), (0, i2)] [(0, r395)] m394 Q
          obtain ⟨hkz396, hrz396⟩ := zk_image hv0lp18_4 gm392 po0_r393 gm394 po0_r395
          refine zw_115 zr_0_1176 rfl ?_
          refine zw_42 zr_0_1177 ?_
          refine zw_15 (c := 6) (L' := [(6, 0), (2, 0), (2, 69), (0, (i2 + 6))]) zr_0_1239 rfl (by decide) (by omega) rfl ?_
          refine zw_42 zr_0_1242 ?_
          exact zw_less (L := [(6, 0), (2, 0), (2, 69), (0, (i2 + 6))]) ⟨Or.inr rfl, Or.inr rfl, Or.inr rfl, Or.inr rfl, trivial⟩ (ihlp18_4 ((i2 + 6)) m394 hIm394 hFm394   (by omega) (by omega) (by assumption) (by omega))
        by_cases h398 : x9 = 31
        · refine zw_111 (t := 1180) zr_0_33 (by rw [h398]; rfl) ?_
          refine zw_7 zr_0_1180 rfl ?_
          refine zw_7s zr_0_1181 rfl ?_
          refine zw_3 zr_0_1182 rfl ?_
          refine zw_push zr_0_1183 ?_
          refine zw_16 zr_0_1184 (by omega) ?_
          refine zw_100 zr_0_1185 rfl (by omega) (by omega) ?_
          intro x399 ex399 hx399a hx399b
          refine zw_C zr_0_1186 (Or.inl rfl) zm_135 rfl rfl ⟨Nat.le_of_ble_eq_true rfl, Nat.le_of_ble_eq_true rfl, Nat.le_of_ble_eq_true rfl, rfl, by decide⟩ (by omega) (th_135 (d := d - 1) (by omega) hIm3 (a0 := x399)   (F41 := m3 41)  rfl (by omega) ) ?_
          rintro _ m400 ⟨r401, rfl, hr401a, hr401b, hIm400, gm400, po0_r401⟩
          have hFm400 : zFr W_0 m0 m400 := hFm3.trans gm400 rfl
          show zW E (d) 0 1189 [(6, 0), (2, 0), (2, 69), (0, i2)] [(0, r401)] m400 Q
          refine zw_115 zr_0_1189 rfl ?_
          refine zw_7 zr_0_1190 rfl ?_
          refine zw_7s zr_0_1191 rfl ?_
          refine zw_3 zr_0_1192 rfl ?_
          refine zw_push zr_0_1193 ?_
          refine zw_16 zr_0_1194 (by omega) ?_
          refine zw_100k zr_0_1195 rfl (by omega) (by omega) ex399.symm ?_
          refine zw_C zr_0_1196 (Or.inl rfl) zm_209 rfl rfl ⟨Nat.le_of_ble_eq_true rfl, Nat.le_of_ble_eq_true rfl, Nat.le_of_ble_eq_true rfl, rfl, by decide⟩ (by omega) (th_209 (d := d - 1) (by omega) hIm400 (a0 := x399)   (F70 := m400 70) (F71 := m400 71) (F72 := m400 72)  rfl rfl rfl (by omega) ) ?_
          rintro _ m402 ⟨r403, rfl, hr403a, hr403b, hIm402, gm402, po0_r403⟩
          have hFm402 : zFr W_0 m0 m402 := hFm400.trans gm402 rfl
          show zW E (d) 0 1199 [(6, 0), (2, 0), (2, 69), (0, i2)] [(0, r403)] m402 Q
          obtain ⟨hkz404, hrz404⟩ := zk_from hv0lp18_4 gm400 po0_r401 gm402 po0_r403
          refine zw_115 zr_0_1199 rfl ?_
          refine zw_42 zr_0_1200 ?_
          refine zw_15 (c := 6) (L' := [(6, 0), (2, 0), (2, 69), (0, (i2 + 6))]) zr_0_1239 rfl (by decide) (by omega) rfl ?_
          refine zw_42 zr_0_1242 ?_
          exact zw_less (L := [(6, 0), (2, 0), (2, 69), (0, (i2 + 6))]) ⟨Or.inr rfl, Or.inr rfl, Or.inr rfl, Or.inr rfl, trivial⟩ (ihlp18_4 ((i2 + 6)) m402 hIm402 hFm402   (by omega) (by omega) (by assumption) (by omega))
        by_cases h406 : x9 = 32
        · refine zw_111 (t := 1203) zr_0_33 (by rw [h406]; rfl) ?_
          refine zw_7 zr_0_1203 rfl ?_
          refine zw_7s zr_0_1204 rfl ?_
          refine zw_3 zr_0_1205 rfl ?_
          refine zw_push zr_0_1206 ?_
          refine zw_16 zr_0_1207 (by omega) ?_
          refine zw_100 zr_0_1208 rfl (by omega) (by omega) ?_
          intro x407 ex407 hx407a hx407b
          obtain ⟨f408, ef408⟩ : ∃ v, m3 1 0 = v := ⟨_, rfl⟩
          have bf408 := ib_1_0 hIm3
          rw [ef408] at bf408
          obtain ⟨f409, ef409⟩ : ∃ v, m3 1 1 = v := ⟨_, rfl⟩
          have bf409 := ib_1_1 hIm3
          rw [ef409] at bf409
          obtain ⟨f410, ef410⟩ : ∃ v, m3 1 2 = v := ⟨_, rfl⟩
          have bf410 := ib_1_2 hIm3
          rw [ef410] at bf410
          obtain ⟨f411, ef411⟩ : ∃ v, m3 1 3 = v := ⟨_, rfl⟩
          have bf411 := ib_1_3 hIm3
          rw [ef411] at bf411
          refine zw_C zr_0_1209 (Or.inl rfl) zm_137 rfl rfl ⟨Nat.le_of_ble_eq_true rfl, Nat.le_of_ble_eq_true rfl, Nat.le_of_ble_eq_true rfl, rfl, by decide⟩ (by omega) (th_137 (d := d - 1) (by omega) hIm3 (a0 := x407) (g0 := f408) (g1 := f409) (g2 := f410) (g3 := f411)   ef408 ef409 ef410 ef411  (by omega) ) ?_
          rintro _ _ ⟨r412, rfl, hr412a, hr412b, rfl, po0_r412⟩
          show zW E (d) 0 1212 [(6, 0), (2, 0), (2, 69), (0, i2)] [(0, r412)] m3 Q
          refine zw_115 zr_0_1212 rfl ?_
          refine zw_7 zr_0_1213 rfl ?_
          refine zw_7s zr_0_1214 rfl ?_
          refine zw_3 zr_0_1215 rfl ?_
          refine zw_push zr_0_1216 ?_
          refine zw_16 zr_0_1217 (by omega) ?_
          refine zw_100k zr_0_1218 rfl (by omega) (by omega) ex407.symm ?_
          obtain ⟨f413, ef413⟩ : ∃ v, m3 70 822 = v := ⟨_, rfl⟩
          have bf413 : 0 ≤ m3 70 822 ∧ m3 70 822 ≤ 10 := ib_70_players hIm3 (by omega)
          rw [ef413] at bf413
          obtain ⟨f414, ef414⟩ : ∃ v, m3 70 823 = v := ⟨_, rfl⟩
          have bf414 : 0 ≤ m3 70 823 ∧ m3 70 823 ≤ 60 := ib_70_meetings hIm3 (by omega)
          rw [ef414] at bf414
          refine zw_C zr_0_1219 (Or.inl rfl) zm_210 rfl rfl ⟨Nat.le_of_ble_eq_true rfl, Nat.le_of_ble_eq_true rfl, Nat.le_of_ble_eq_true rfl, rfl, by decide⟩ (by omega) (th_210 (d := d - 1) (by omega) hIm3 (a0 := x407) (g0 := f413) (g1 := f414)  (F70 := m3 70) ef413 ef414 rfl (by omega) ) ?_
          rintro _ _ ⟨r415, rfl, hr415a, hr415b, rfl, po0_r415⟩
          show zW E (d) 0 1222 [(6, 0), (2, 0), (2, 69), (0, i2)] [(0, r415)] m3 Q
          have hqz417 := zq_count hIm3 hv0lp18_4 (zFr.rfl (W := [])) ef408 ef409 ef410 ef411 po0_r412 ef413 ef414 po0_r415
          refine zw_115 zr_0_1222 rfl ?_
          refine zw_42 zr_0_1223 ?_
          refine zw_15 (c := 6) (L' := [(6, 0), (2, 0), (2, 69), (0, (i2 + 6))]) zr_0_1239 rfl (by decide) (by omega) rfl ?_
          refine zw_42 zr_0_1242 ?_
          exact zw_less (L := [(6, 0), (2, 0), (2, 69), (0, (i2 + 6))]) ⟨Or.inr rfl, Or.inr rfl, Or.inr rfl, Or.inr rfl, trivial⟩ (ihlp18_4 ((i2 + 6)) m3 hIm3 hFm3   (by omega) (by omega) (by assumption) (by omega))
        by_cases h419 : x9 = 33
        · refine zw_111 (t := 1226) zr_0_33 (by rw [h419]; rfl) ?_
          refine zw_7 zr_0_1226 rfl ?_
          refine zw_C zr_0_1227 (Or.inl rfl) zm_138 rfl rfl ⟨Nat.le_of_ble_eq_true rfl, Nat.le_of_ble_eq_true rfl, Nat.le_of_ble_eq_true rfl, rfl, by decide⟩ (by omega) (th_138 (d := d - 1) (by omega) hIm3        ) ?_
          rintro _ _ ⟨r420, rfl, hr420a, hr420b, rfl⟩
          show zW E (d) 0 1230 [(6, 0), (2, 0), (2, 69), (0, i2)] [(1, r420)] m3 Q
          refine zw_116 zr_0_1230 rfl ?_
          refine zw_7 zr_0_1231 rfl ?_
          refine zw_C zr_0_1232 (Or.inl rfl) zm_212 rfl rfl ⟨Nat.le_of_ble_eq_true rfl, Nat.le_of_ble_eq_true rfl, Nat.le_of_ble_eq_true rfl, rfl, by decide⟩ (by omega) (th_212 (d := d - 1) (by omega) hIm3        ) ?_
          rintro _ _ ⟨r421, rfl, hr421a, hr421b, rfl⟩
          show zW E (d) 0 1235 [(6, 0), (2, 0), (2, 69), (0, i2)] [(1, r421)] m3 Q
          refine zw_116 zr_0_1235 rfl ?_
          refine zw_42 zr_0_1236 ?_
          refine zw_15 (c := 6) (L' := [(6, 0), (2, 0), (2, 69), (0, (i2 + 6))]) zr_0_1239 rfl (by decide) (by omega) rfl ?_
          refine zw_42 zr_0_1242 ?_
          exact zw_less (L := [(6, 0), (2, 0), (2, 69), (0, (i2 + 6))]) ⟨Or.inr rfl, Or.inr rfl, Or.inr rfl, Or.inr rfl, trivial⟩ (ihlp18_4 ((i2 + 6)) m3 hIm3 hFm3   (by omega) (by omega) (by assumption) (by omega))
        refine zw_111d (t := 1239) zr_0_33 (by omega) rfl ?_
        refine zw_15 (c := 6) (L' := [(6, 0), (2, 0), (2, 69), (0, (i2 + 6))]) zr_0_1239 rfl (by decide) (by omega) rfl ?_
        refine zw_42 zr_0_1242 ?_
        exact zw_less (L := [(6, 0), (2, 0), (2, 69), (0, (i2 + 6))]) ⟨Or.inr rfl, Or.inr rfl, Or.inr rfl, Or.inr rfl, trivial⟩ (ihlp18_4 ((i2 + 6)) m3 hIm3 hFm3   (by omega) (by omega) (by assumption) (by omega))
  exact lp18_4 _ (0) m0 hI0 hF0   (by omega) (by omega) (hK0) (Nat.lt_succ_self _)
