abbrev W_0 : List (Nat × Nat) := [(1, 0), (1, 1), (1, 2), (1, 3), (1, 4), (1, 5), (2, 1000), (3, 1000), (4, 1000), (5, 1000), (6, 1000), (7, 1000), (8, 1000), (9, 1000), (10, 1000), (11, 1000), (12, 1000), (13, 1000), (15, 0), (15, 1), (15, 2), (15, 3), (15, 4), (15, 5), (16, 1000), (17, 1000), (18, 1000), (19, 1000), (20, 1000), (21, 1000), (22, 1000), (23, 1000), (24, 1000), (25, 1000), (26, 1000), (27, 1000), (28, 0), (28, 1), (28, 2), (28, 3), (28, 4), (28, 5), (29, 1000), (30, 1000), (31, 1000), (32, 1000), (33, 1000), (34, 1000), (35, 1000), (36, 1000), (37, 1000), (38, 1000), (39, 1000), (40, 1000), (41, 1000), (42, 0), (42, 1), (43, 5), (44, 1000), (45, 1), (45, 5), (45, 6), (45, 7), (45, 8), (45, 9), (46, 1000), (47, 1000), (48, 1000), (49, 1000), (50, 1000), (51, 1000), (52, 0), (52, 1), (52, 2), (53, 1000), (54, 1000), (55, 5), (56, 1000), (57, 1000), (58, 1000), (59, 1000), (61, 1000), (62, 1000), (63, 0), (64, 1000), (65, 1000), (66, 1000), (67, 1000), (68, 1000), (69, 3), (69, 4), (69, 5), (69, 6), (69, 7), (69, 9), (69, 11), (69, 13), (69, 17), (69, 18), (69, 23), (69, 24), (70, 1000), (71, 1000), (72, 1000), (73, 1000), (74, 1000), (75, 1000), (76, 1000), (77, 1000), (78, 1000), (79, 1000), (80, 1000), (81, 1000), (82, 1000), (83, 1000), (84, 1000)]
set_option maxHeartbeats 40000000 in
theorem th_0 {E : zE} {d : Nat} {m0 : zM} (hd : 97 ≤ d) (hI0 : zInv m0) (hK0 : qK m0) (hK1 : qFr m0) {n1 : Int} (hn1 : (E.1 : Int) = n1) (hn2 : n1 ≤ 3072) : zW E d 0 18 [(6, 0), (2, 0), (2, 69), (0, 0)] [] m0 (fun v m' => ∃ r : Int, v = (0, r) ∧ 1 ≤ r ∧ r ≤ 1 ∧ zInv m' ∧ zFr W_0 m0 m') := by
  have hF0 : zFr W_0 m0 m0 := zFr.rfl
  generalize hQ : (fun (v : zV) (m' : zM) => ∃ r : Int, v = (0, r) ∧ 1 ≤ r ∧ r ≤ 1 ∧ zInv m' ∧ zFr W_0 m0 m') = Q
  have lp18_4 : ∀ (nlp18_4 : Nat) (i2 : Int) (m3 : zM), zInv m3 → zFr W_0 m0 m3 → 0 ≤ i2 → i2 ≤ 9999 → (qK m3) → (qFr m3) → (3078 - i2).toNat < nlp18_4 → zW E (d) 0 18 [(6, 0), (2, 0), (2, 69), (0, i2)] [] m3 Q := by
    intro nlp18_4
    induction nlp18_4 with
    | zero =>
      intros
      exact absurd (by assumption : _ < 0) (Nat.not_lt_zero _)
    | succ nlp18_4 ihlp18_4 =>
      intro i2 m3 hIm3 hFm3 li2 ui2 hv0lp18_4 hv1lp18_4 hmlp18_4
      refine zw_3 zr_0_18 rfl ?_
      refine zw_7s zr_0_19 rfl ?_
      refine zw_101n zr_0_20 rfl (by omega) hn1 ?_
      refine zw_push zr_0_21 ?_
      refine zw_17 zr_0_23 (by omega) ?_
      refine zw_41_2 zr_0_24 ?_ ?_
      · intro h6
        refine zw_push zr_0_1244 ?_
        refine zw_R zr_0_1245 (by decide) zm_0 (v := (0, 1)) (zRetB (by omega)) ?_
        rw [← hQ]; exact ⟨_, rfl, by omega, by omega, hIm3, hFm3⟩
      · intro h7
        refine zw_7s zr_0_27 rfl ?_
        refine zw_3 zr_0_28 rfl ?_
        refine zw_100 zr_0_29 rfl (by omega) (by omega) ?_
        intro x8 ex8 hx8a hx8b
        clear ex8
        refine zw_push zr_0_30 ?_
        refine zw_21m zr_0_32 (by omega) (by omega) ?_
        intro x9 hx9a hx9b
        by_cases h10 : x9 = 0
        · refine zw_111 (t := 184) zr_0_33 (by rw [h10]; rfl) ?_
          refine zw_7 zr_0_184 rfl ?_
          refine zw_7s zr_0_185 rfl ?_
          refine zw_3 zr_0_186 rfl ?_
          refine zw_push zr_0_187 ?_
          refine zw_16 zr_0_188 (by omega) ?_
          refine zw_100 zr_0_189 rfl (by omega) (by omega) ?_
          intro x11 ex11 hx11a hx11b
          obtain ⟨f12, ef12⟩ : ∃ v, m3 1 0 = v := ⟨_, rfl⟩
          have bf12 := ib_1_0 hIm3
          rw [ef12] at bf12
          refine zw_C zr_0_190 (Or.inl rfl) zm_99 rfl rfl ⟨Nat.le_of_ble_eq_true rfl, Nat.le_of_ble_eq_true rfl, Nat.le_of_ble_eq_true rfl, rfl, by decide⟩ (by omega) (th_99 (d := d - 1) (by omega) hIm3 (a0 := x11) (g0 := f12)  (F2 := m3 2) ef12 rfl (by omega) ) ?_
          rintro _ m13 ⟨r14, rfl, hr14a, hr14b, hIm13, gm13, po0_r14, po1_r14, po2_r14⟩
          have hFm13 : zFr W_0 m0 m13 := hFm3.trans gm13 rfl
          show zW E (d) 0 193 [(6, 0), (2, 0), (2, 69), (0, i2)] [(0, r14)] m13 Q
          refine zw_115 zr_0_193 rfl ?_
          refine zw_7 zr_0_194 rfl ?_
          refine zw_7s zr_0_195 rfl ?_
          refine zw_3 zr_0_196 rfl ?_
          refine zw_push zr_0_197 ?_
          refine zw_16 zr_0_198 (by omega) ?_
          refine zw_100k zr_0_199 rfl (by omega) (by omega) ex11.symm ?_
          obtain ⟨f15, ef15⟩ : ∃ v, m13 70 822 = v := ⟨_, rfl⟩
          have bf15 : 0 ≤ m13 70 822 ∧ m13 70 822 ≤ 10 := ib_70_players hIm13 (by omega)
          rw [ef15] at bf15
          refine zw_C zr_0_200 (Or.inl rfl) zm_145 rfl rfl ⟨Nat.le_of_ble_eq_true rfl, Nat.le_of_ble_eq_true rfl, Nat.le_of_ble_eq_true rfl, rfl, by decide⟩ (by omega) (th_145 (d := d - 1) (by omega) hIm13 (a0 := x11) (g0 := f15)  (F70 := m13 70) ef15 rfl (by omega) ) ?_
          rintro _ m16 ⟨r17, rfl, hr17a, hr17b, hIm16, gm16, po0_r17, po1_r17⟩
          have hFm16 : zFr W_0 m0 m16 := hFm13.trans gm16 rfl
          show zW E (d) 0 203 [(6, 0), (2, 0), (2, 69), (0, i2)] [(0, r17)] m16 Q
          obtain ⟨hkz18, hrz18⟩ := zk_player hIm3 hv0lp18_4 gm13 ef12 po0_r14 po1_r14 po2_r14 gm16 ef15 po0_r17 po1_r17
          have hfz19_0 := zfr_fr hv1lp18_4 gm13
          have hfz19_1 := zfr_fr hfz19_0 gm16
          refine zw_115 zr_0_203 rfl ?_
          refine zw_42 zr_0_204 ?_
          refine zw_15 (c := 6) (L' := [(6, 0), (2, 0), (2, 69), (0, (i2 + 6))]) zr_0_1238 rfl (by decide) (by omega) rfl ?_
          refine zw_42 zr_0_1241 ?_
          exact zw_less (L := [(6, 0), (2, 0), (2, 69), (0, (i2 + 6))]) ⟨Or.inr rfl, Or.inr rfl, Or.inr rfl, Or.inr rfl, trivial⟩ (ihlp18_4 ((i2 + 6)) m16 hIm16 hFm16   (by omega) (by omega) (by assumption) (by assumption) (by omega))
        by_cases h22 : x9 = 1
        · refine zw_111 (t := 207) zr_0_33 (by rw [h22]; rfl) ?_
          refine zw_7 zr_0_207 rfl ?_
          refine zw_7s zr_0_208 rfl ?_
          refine zw_3 zr_0_209 rfl ?_
          refine zw_push zr_0_210 ?_
          refine zw_16 zr_0_211 (by omega) ?_
          refine zw_100 zr_0_212 rfl (by omega) (by omega) ?_
          intro x23 ex23 hx23a hx23b
          refine zw_7s zr_0_213 rfl ?_
          refine zw_3 zr_0_214 rfl ?_
          refine zw_push zr_0_215 ?_
          refine zw_16 zr_0_216 (by omega) ?_
          refine zw_100 zr_0_217 rfl (by omega) (by omega) ?_
          intro x24 ex24 hx24a hx24b
          refine zw_7s zr_0_218 rfl ?_
          refine zw_3 zr_0_219 rfl ?_
          refine zw_push zr_0_220 ?_
          refine zw_16 zr_0_221 (by omega) ?_
          refine zw_100 zr_0_222 rfl (by omega) (by omega) ?_
          intro x25 ex25 hx25a hx25b
          refine zw_7s zr_0_223 rfl ?_
          refine zw_3 zr_0_224 rfl ?_
          refine zw_push zr_0_225 ?_
          refine zw_16 zr_0_226 (by omega) ?_
          refine zw_100 zr_0_227 rfl (by omega) (by omega) ?_
          intro x26 ex26 hx26a hx26b
          refine zw_7s zr_0_228 rfl ?_
          refine zw_3 zr_0_229 rfl ?_
          refine zw_push zr_0_230 ?_
          refine zw_16 zr_0_231 (by omega) ?_
          refine zw_100 zr_0_232 rfl (by omega) (by omega) ?_
          intro x27 ex27 hx27a hx27b
          refine zw_40_1 zr_0_233 ?_ ?_
          · intro h28
            refine zw_push zr_0_240 ?_
            obtain ⟨f29, ef29⟩ : ∃ v, m3 1 0 = v := ⟨_, rfl⟩
            have bf29 := ib_1_0 hIm3
            rw [ef29] at bf29
            obtain ⟨f30, ef30⟩ : ∃ v, m3 1 1 = v := ⟨_, rfl⟩
            have bf30 := ib_1_1 hIm3
            rw [ef30] at bf30
            obtain ⟨f31, ef31⟩ : ∃ v, m3 1 2 = v := ⟨_, rfl⟩
            have bf31 := ib_1_2 hIm3
            rw [ef31] at bf31
            refine zw_C zr_0_241 (Or.inl rfl) zm_102 rfl rfl ⟨Nat.le_of_ble_eq_true rfl, Nat.le_of_ble_eq_true rfl, Nat.le_of_ble_eq_true rfl, rfl, by decide⟩ (by omega) (th_102 (d := d - 1) (by omega) hIm3 (a0 := x23) (a1 := x24) (a2 := x25) (a3 := x26) (a4 := 0) (g0 := f29) (g1 := f30) (g2 := f31)  (F5 := m3 5) (F6 := m3 6) (F7 := m3 7) (F8 := m3 8) ef29 ef30 ef31 rfl rfl rfl rfl (by omega) (by omega) (by omega) (by omega) (by omega) ) ?_
            rintro _ m32 ⟨r33, rfl, hr33a, hr33b, hIm32, gm32, po0_r33, po1_r33, po2_r33, po3_r33, po4_r33, po5_r33, po6_r33, po7_r33⟩
            have hFm32 : zFr W_0 m0 m32 := hFm3.trans gm32 rfl
            have km32_1_0 : m32 1 0 = f29 := (gm32 1 0 rfl).trans ef29
            show zW E (d) 0 244 [(6, 0), (2, 0), (2, 69), (0, i2)] [(0, r33)] m32 Q
            refine zw_115 zr_0_244 rfl ?_
            refine zw_7 zr_0_245 rfl ?_
            refine zw_7s zr_0_246 rfl ?_
            refine zw_3 zr_0_247 rfl ?_
            refine zw_push zr_0_248 ?_
            refine zw_16 zr_0_249 (by omega) ?_
            refine zw_100k zr_0_250 rfl (by omega) (by omega) ex23.symm ?_
            refine zw_7s zr_0_251 rfl ?_
            refine zw_3 zr_0_252 rfl ?_
            refine zw_push zr_0_253 ?_
            refine zw_16 zr_0_254 (by omega) ?_
            refine zw_100k zr_0_255 rfl (by omega) (by omega) ex24.symm ?_
            refine zw_7s zr_0_256 rfl ?_
            refine zw_3 zr_0_257 rfl ?_
            refine zw_push zr_0_258 ?_
            refine zw_16 zr_0_259 (by omega) ?_
            refine zw_100k zr_0_260 rfl (by omega) (by omega) ex25.symm ?_
            refine zw_7s zr_0_261 rfl ?_
            refine zw_3 zr_0_262 rfl ?_
            refine zw_push zr_0_263 ?_
            refine zw_16 zr_0_264 (by omega) ?_
            refine zw_100k zr_0_265 rfl (by omega) (by omega) ex26.symm ?_
            refine zw_7s zr_0_266 rfl ?_
            refine zw_3 zr_0_267 rfl ?_
            refine zw_push zr_0_268 ?_
            refine zw_16 zr_0_269 (by omega) ?_
            refine zw_100k zr_0_270 rfl (by omega) (by omega) ex27.symm ?_
            refine zw_40_1 zr_0_271 ?_ ?_
            · intro h34
              refine zw_push zr_0_278 ?_
              obtain ⟨f35, ef35⟩ : ∃ v, m32 70 822 = v := ⟨_, rfl⟩
              have bf35 : 0 ≤ m32 70 822 ∧ m32 70 822 ≤ 10 := ib_70_players hIm32 (by omega)
              rw [ef35] at bf35
              obtain ⟨f36, ef36⟩ : ∃ v, m32 70 823 = v := ⟨_, rfl⟩
              have bf36 : 0 ≤ m32 70 823 ∧ m32 70 823 ≤ 60 := ib_70_meetings hIm32 (by omega)
              rw [ef36] at bf36
              refine zw_C zr_0_279 (Or.inl rfl) zm_146 rfl rfl ⟨Nat.le_of_ble_eq_true rfl, Nat.le_of_ble_eq_true rfl, Nat.le_of_ble_eq_true rfl, rfl, by decide⟩ (by omega) (th_146 (d := d - 1) (by omega) hIm32 (a0 := x23) (a1 := x24) (a2 := x25) (a3 := x26) (a4 := 0) (g0 := f35) (g1 := f36)  (F70 := m32 70) ef35 ef36 rfl (by omega) (by omega) (by omega) (by omega) (by omega) ) ?_
              rintro _ m37 ⟨r38, rfl, hr38a, hr38b, hIm37, gm37, po0_r38, po1_r38⟩
              have hFm37 : zFr W_0 m0 m37 := hFm32.trans gm37 rfl
              have km37_1_0 : m37 1 0 = f29 := (gm37 1 0 rfl).trans km32_1_0
              show zW E (d) 0 282 [(6, 0), (2, 0), (2, 69), (0, i2)] [(0, r38)] m37 Q
              obtain ⟨hkz39, hrz39⟩ := zk_meeting hIm3 hv0lp18_4 gm32 ef29 ef30 ef31 po0_r33 po1_r33 po2_r33 po3_r33 po4_r33 po5_r33 po6_r33 po7_r33 gm37 ef35 ef36 po0_r38 po1_r38
              have hfz40_0 := zfr_fr hv1lp18_4 gm32
              have hfz40_1 := zfr_fr hfz40_0 gm37
              refine zw_115 zr_0_282 rfl ?_
              refine zw_42 zr_0_283 ?_
              refine zw_15 (c := 6) (L' := [(6, 0), (2, 0), (2, 69), (0, (i2 + 6))]) zr_0_1238 rfl (by decide) (by omega) rfl ?_
              refine zw_42 zr_0_1241 ?_
              exact zw_less (L := [(6, 0), (2, 0), (2, 69), (0, (i2 + 6))]) ⟨Or.inr rfl, Or.inr rfl, Or.inr rfl, Or.inr rfl, trivial⟩ (ihlp18_4 ((i2 + 6)) m37 hIm37 hFm37   (by omega) (by omega) (by assumption) (by assumption) (by omega))
            · intro h43; omega
          · intro h44
            refine zw_push zr_0_236 ?_
            refine zw_42 zr_0_237 ?_
            obtain ⟨f45, ef45⟩ : ∃ v, m3 1 0 = v := ⟨_, rfl⟩
            have bf45 := ib_1_0 hIm3
            rw [ef45] at bf45
            obtain ⟨f46, ef46⟩ : ∃ v, m3 1 1 = v := ⟨_, rfl⟩
            have bf46 := ib_1_1 hIm3
            rw [ef46] at bf46
            obtain ⟨f47, ef47⟩ : ∃ v, m3 1 2 = v := ⟨_, rfl⟩
            have bf47 := ib_1_2 hIm3
            rw [ef47] at bf47
            refine zw_C zr_0_241 (Or.inl rfl) zm_102 rfl rfl ⟨Nat.le_of_ble_eq_true rfl, Nat.le_of_ble_eq_true rfl, Nat.le_of_ble_eq_true rfl, rfl, by decide⟩ (by omega) (th_102 (d := d - 1) (by omega) hIm3 (a0 := x23) (a1 := x24) (a2 := x25) (a3 := x26) (a4 := 1) (g0 := f45) (g1 := f46) (g2 := f47)  (F5 := m3 5) (F6 := m3 6) (F7 := m3 7) (F8 := m3 8) ef45 ef46 ef47 rfl rfl rfl rfl (by omega) (by omega) (by omega) (by omega) (by omega) ) ?_
            rintro _ m48 ⟨r49, rfl, hr49a, hr49b, hIm48, gm48, po0_r49, po1_r49, po2_r49, po3_r49, po4_r49, po5_r49, po6_r49, po7_r49⟩
            have hFm48 : zFr W_0 m0 m48 := hFm3.trans gm48 rfl
            have km48_1_0 : m48 1 0 = f45 := (gm48 1 0 rfl).trans ef45
            show zW E (d) 0 244 [(6, 0), (2, 0), (2, 69), (0, i2)] [(0, r49)] m48 Q
            refine zw_115 zr_0_244 rfl ?_
            refine zw_7 zr_0_245 rfl ?_
            refine zw_7s zr_0_246 rfl ?_
            refine zw_3 zr_0_247 rfl ?_
            refine zw_push zr_0_248 ?_
            refine zw_16 zr_0_249 (by omega) ?_
            refine zw_100k zr_0_250 rfl (by omega) (by omega) ex23.symm ?_
            refine zw_7s zr_0_251 rfl ?_
            refine zw_3 zr_0_252 rfl ?_
            refine zw_push zr_0_253 ?_
            refine zw_16 zr_0_254 (by omega) ?_
            refine zw_100k zr_0_255 rfl (by omega) (by omega) ex24.symm ?_
            refine zw_7s zr_0_256 rfl ?_
            refine zw_3 zr_0_257 rfl ?_
            refine zw_push zr_0_258 ?_
            refine zw_16 zr_0_259 (by omega) ?_
            refine zw_100k zr_0_260 rfl (by omega) (by omega) ex25.symm ?_
            refine zw_7s zr_0_261 rfl ?_
            refine zw_3 zr_0_262 rfl ?_
            refine zw_push zr_0_263 ?_
            refine zw_16 zr_0_264 (by omega) ?_
            refine zw_100k zr_0_265 rfl (by omega) (by omega) ex26.symm ?_
            refine zw_7s zr_0_266 rfl ?_
            refine zw_3 zr_0_267 rfl ?_
            refine zw_push zr_0_268 ?_
            refine zw_16 zr_0_269 (by omega) ?_
            refine zw_100k zr_0_270 rfl (by omega) (by omega) ex27.symm ?_
            refine zw_40_1 zr_0_271 ?_ ?_
            · intro h50; omega
            · intro h51
              refine zw_push zr_0_274 ?_
              refine zw_42 zr_0_275 ?_
              obtain ⟨f52, ef52⟩ : ∃ v, m48 70 822 = v := ⟨_, rfl⟩
              have bf52 : 0 ≤ m48 70 822 ∧ m48 70 822 ≤ 10 := ib_70_players hIm48 (by omega)
              rw [ef52] at bf52
              obtain ⟨f53, ef53⟩ : ∃ v, m48 70 823 = v := ⟨_, rfl⟩
              have bf53 : 0 ≤ m48 70 823 ∧ m48 70 823 ≤ 60 := ib_70_meetings hIm48 (by omega)
              rw [ef53] at bf53
              refine zw_C zr_0_279 (Or.inl rfl) zm_146 rfl rfl ⟨Nat.le_of_ble_eq_true rfl, Nat.le_of_ble_eq_true rfl, Nat.le_of_ble_eq_true rfl, rfl, by decide⟩ (by omega) (th_146 (d := d - 1) (by omega) hIm48 (a0 := x23) (a1 := x24) (a2 := x25) (a3 := x26) (a4 := 1) (g0 := f52) (g1 := f53)  (F70 := m48 70) ef52 ef53 rfl (by omega) (by omega) (by omega) (by omega) (by omega) ) ?_
              rintro _ m54 ⟨r55, rfl, hr55a, hr55b, hIm54, gm54, po0_r55, po1_r55⟩
              have hFm54 : zFr W_0 m0 m54 := hFm48.trans gm54 rfl
              have km54_1_0 : m54 1 0 = f45 := (gm54 1 0 rfl).trans km48_1_0
              show zW E (d) 0 282 [(6, 0), (2, 0), (2, 69), (0, i2)] [(0, r55)] m54 Q
              obtain ⟨hkz56, hrz56⟩ := zk_meeting hIm3 hv0lp18_4 gm48 ef45 ef46 ef47 po0_r49 po1_r49 po2_r49 po3_r49 po4_r49 po5_r49 po6_r49 po7_r49 gm54 ef52 ef53 po0_r55 po1_r55
              have hfz57_0 := zfr_fr hv1lp18_4 gm48
              have hfz57_1 := zfr_fr hfz57_0 gm54
              refine zw_115 zr_0_282 rfl ?_
              refine zw_42 zr_0_283 ?_
              refine zw_15 (c := 6) (L' := [(6, 0), (2, 0), (2, 69), (0, (i2 + 6))]) zr_0_1238 rfl (by decide) (by omega) rfl ?_
              refine zw_42 zr_0_1241 ?_
              exact zw_less (L := [(6, 0), (2, 0), (2, 69), (0, (i2 + 6))]) ⟨Or.inr rfl, Or.inr rfl, Or.inr rfl, Or.inr rfl, trivial⟩ (ihlp18_4 ((i2 + 6)) m54 hIm54 hFm54   (by omega) (by omega) (by assumption) (by assumption) (by omega))
        by_cases h60 : x9 = 2
        · refine zw_111 (t := 286) zr_0_33 (by rw [h60]; rfl) ?_
          refine zw_7 zr_0_286 rfl ?_
          refine zw_7s zr_0_287 rfl ?_
          refine zw_3 zr_0_288 rfl ?_
          refine zw_push zr_0_289 ?_
          refine zw_16 zr_0_290 (by omega) ?_
          refine zw_100 zr_0_291 rfl (by omega) (by omega) ?_
          intro x61 ex61 hx61a hx61b
          refine zw_7s zr_0_292 rfl ?_
          refine zw_3 zr_0_293 rfl ?_
          refine zw_push zr_0_294 ?_
          refine zw_16 zr_0_295 (by omega) ?_
          refine zw_100 zr_0_296 rfl (by omega) (by omega) ?_
          intro x62 ex62 hx62a hx62b
          refine zw_7s zr_0_297 rfl ?_
          refine zw_3 zr_0_298 rfl ?_
          refine zw_push zr_0_299 ?_
          refine zw_16 zr_0_300 (by omega) ?_
          refine zw_100 zr_0_301 rfl (by omega) (by omega) ?_
          intro x63 ex63 hx63a hx63b
          refine zw_40_1 zr_0_302 ?_ ?_
          · intro h64
            refine zw_push zr_0_309 ?_
            obtain ⟨f65, ef65⟩ : ∃ v, m3 1 1 = v := ⟨_, rfl⟩
            have bf65 := ib_1_1 hIm3
            rw [ef65] at bf65
            obtain ⟨f66, ef66⟩ : ∃ v, m3 1 2 = v := ⟨_, rfl⟩
            have bf66 := ib_1_2 hIm3
            rw [ef66] at bf66
            obtain ⟨f67, ef67⟩ : ∃ v, m3 1 3 = v := ⟨_, rfl⟩
            have bf67 := ib_1_3 hIm3
            rw [ef67] at bf67
            refine zw_C zr_0_310 (Or.inl rfl) zm_103 rfl rfl ⟨Nat.le_of_ble_eq_true rfl, Nat.le_of_ble_eq_true rfl, Nat.le_of_ble_eq_true rfl, rfl, by decide⟩ (by omega) (th_103 (d := d - 1) (by omega) hIm3 (a0 := x61) (a1 := x62) (a2 := 0) (g0 := f65) (g1 := f66) (g2 := f67)   ef65 ef66 ef67  (by omega) (by omega) (by omega) ) ?_
            rintro _ m68 ⟨r69, rfl, hr69a, hr69b, hIm68, gm68, po0_r69, po1_r69, po2_r69⟩
            have hFm68 : zFr W_0 m0 m68 := hFm3.trans gm68 rfl
            have km68_1_1 : m68 1 1 = f65 := (gm68 1 1 rfl).trans ef65
            show zW E (d) 0 313 [(6, 0), (2, 0), (2, 69), (0, i2)] [(0, r69)] m68 Q
            refine zw_115 zr_0_313 rfl ?_
            refine zw_7 zr_0_314 rfl ?_
            refine zw_7s zr_0_315 rfl ?_
            refine zw_3 zr_0_316 rfl ?_
            refine zw_push zr_0_317 ?_
            refine zw_16 zr_0_318 (by omega) ?_
            refine zw_100k zr_0_319 rfl (by omega) (by omega) ex61.symm ?_
            refine zw_7s zr_0_320 rfl ?_
            refine zw_3 zr_0_321 rfl ?_
            refine zw_push zr_0_322 ?_
            refine zw_16 zr_0_323 (by omega) ?_
            refine zw_100k zr_0_324 rfl (by omega) (by omega) ex62.symm ?_
            refine zw_7s zr_0_325 rfl ?_
            refine zw_3 zr_0_326 rfl ?_
            refine zw_push zr_0_327 ?_
            refine zw_16 zr_0_328 (by omega) ?_
            refine zw_100k zr_0_329 rfl (by omega) (by omega) ex63.symm ?_
            refine zw_40_1 zr_0_330 ?_ ?_
            · intro h70
              refine zw_push zr_0_337 ?_
              obtain ⟨f71, ef71⟩ : ∃ v, m68 70 823 = v := ⟨_, rfl⟩
              have bf71 : 0 ≤ m68 70 823 ∧ m68 70 823 ≤ 60 := ib_70_meetings hIm68 (by omega)
              rw [ef71] at bf71
              refine zw_C zr_0_338 (Or.inl rfl) zm_147 rfl rfl ⟨Nat.le_of_ble_eq_true rfl, Nat.le_of_ble_eq_true rfl, Nat.le_of_ble_eq_true rfl, rfl, by decide⟩ (by omega) (th_147 (d := d - 1) (by omega) hIm68 (a0 := x61) (a1 := x62) (a2 := 0) (g0 := f71)  (F70 := m68 70) ef71 rfl (by omega) (by omega) (by omega) ) ?_
              rintro _ m72 ⟨r73, rfl, hr73a, hr73b, hIm72, gm72, po0_r73, po1_r73⟩
              have hFm72 : zFr W_0 m0 m72 := hFm68.trans gm72 rfl
              have km72_1_1 : m72 1 1 = f65 := (gm72 1 1 rfl).trans km68_1_1
              show zW E (d) 0 341 [(6, 0), (2, 0), (2, 69), (0, i2)] [(0, r73)] m72 Q
              obtain ⟨hkz74, hrz74⟩ := zk_mark hIm3 hv0lp18_4 gm68 ef65 ef66 ef67 po0_r69 po1_r69 po2_r69 gm72 ef71 po0_r73 po1_r73
              have hfz75_0 := zfr_fr hv1lp18_4 gm68
              have hfz75_1 := zfr_fr hfz75_0 gm72
              refine zw_115 zr_0_341 rfl ?_
              refine zw_42 zr_0_342 ?_
              refine zw_15 (c := 6) (L' := [(6, 0), (2, 0), (2, 69), (0, (i2 + 6))]) zr_0_1238 rfl (by decide) (by omega) rfl ?_
              refine zw_42 zr_0_1241 ?_
              exact zw_less (L := [(6, 0), (2, 0), (2, 69), (0, (i2 + 6))]) ⟨Or.inr rfl, Or.inr rfl, Or.inr rfl, Or.inr rfl, trivial⟩ (ihlp18_4 ((i2 + 6)) m72 hIm72 hFm72   (by omega) (by omega) (by assumption) (by assumption) (by omega))
            · intro h78; omega
          · intro h79
            refine zw_push zr_0_305 ?_
            refine zw_42 zr_0_306 ?_
            obtain ⟨f80, ef80⟩ : ∃ v, m3 1 1 = v := ⟨_, rfl⟩
            have bf80 := ib_1_1 hIm3
            rw [ef80] at bf80
            obtain ⟨f81, ef81⟩ : ∃ v, m3 1 2 = v := ⟨_, rfl⟩
            have bf81 := ib_1_2 hIm3
            rw [ef81] at bf81
            obtain ⟨f82, ef82⟩ : ∃ v, m3 1 3 = v := ⟨_, rfl⟩
            have bf82 := ib_1_3 hIm3
            rw [ef82] at bf82
            refine zw_C zr_0_310 (Or.inl rfl) zm_103 rfl rfl ⟨Nat.le_of_ble_eq_true rfl, Nat.le_of_ble_eq_true rfl, Nat.le_of_ble_eq_true rfl, rfl, by decide⟩ (by omega) (th_103 (d := d - 1) (by omega) hIm3 (a0 := x61) (a1 := x62) (a2 := 1) (g0 := f80) (g1 := f81) (g2 := f82)   ef80 ef81 ef82  (by omega) (by omega) (by omega) ) ?_
            rintro _ m83 ⟨r84, rfl, hr84a, hr84b, hIm83, gm83, po0_r84, po1_r84, po2_r84⟩
            have hFm83 : zFr W_0 m0 m83 := hFm3.trans gm83 rfl
            have km83_1_1 : m83 1 1 = f80 := (gm83 1 1 rfl).trans ef80
            show zW E (d) 0 313 [(6, 0), (2, 0), (2, 69), (0, i2)] [(0, r84)] m83 Q
            refine zw_115 zr_0_313 rfl ?_
            refine zw_7 zr_0_314 rfl ?_
            refine zw_7s zr_0_315 rfl ?_
            refine zw_3 zr_0_316 rfl ?_
            refine zw_push zr_0_317 ?_
            refine zw_16 zr_0_318 (by omega) ?_
            refine zw_100k zr_0_319 rfl (by omega) (by omega) ex61.symm ?_
            refine zw_7s zr_0_320 rfl ?_
            refine zw_3 zr_0_321 rfl ?_
            refine zw_push zr_0_322 ?_
            refine zw_16 zr_0_323 (by omega) ?_
            refine zw_100k zr_0_324 rfl (by omega) (by omega) ex62.symm ?_
            refine zw_7s zr_0_325 rfl ?_
            refine zw_3 zr_0_326 rfl ?_
            refine zw_push zr_0_327 ?_
            refine zw_16 zr_0_328 (by omega) ?_
            refine zw_100k zr_0_329 rfl (by omega) (by omega) ex63.symm ?_
            refine zw_40_1 zr_0_330 ?_ ?_
            · intro h85; omega
            · intro h86
              refine zw_push zr_0_333 ?_
              refine zw_42 zr_0_334 ?_
              obtain ⟨f87, ef87⟩ : ∃ v, m83 70 823 = v := ⟨_, rfl⟩
              have bf87 : 0 ≤ m83 70 823 ∧ m83 70 823 ≤ 60 := ib_70_meetings hIm83 (by omega)
              rw [ef87] at bf87
              refine zw_C zr_0_338 (Or.inl rfl) zm_147 rfl rfl ⟨Nat.le_of_ble_eq_true rfl, Nat.le_of_ble_eq_true rfl, Nat.le_of_ble_eq_true rfl, rfl, by decide⟩ (by omega) (th_147 (d := d - 1) (by omega) hIm83 (a0 := x61) (a1 := x62) (a2 := 1) (g0 := f87)  (F70 := m83 70) ef87 rfl (by omega) (by omega) (by omega) ) ?_
              rintro _ m88 ⟨r89, rfl, hr89a, hr89b, hIm88, gm88, po0_r89, po1_r89⟩
              have hFm88 : zFr W_0 m0 m88 := hFm83.trans gm88 rfl
              have km88_1_1 : m88 1 1 = f80 := (gm88 1 1 rfl).trans km83_1_1
              show zW E (d) 0 341 [(6, 0), (2, 0), (2, 69), (0, i2)] [(0, r89)] m88 Q
              obtain ⟨hkz90, hrz90⟩ := zk_mark hIm3 hv0lp18_4 gm83 ef80 ef81 ef82 po0_r84 po1_r84 po2_r84 gm88 ef87 po0_r89 po1_r89
              have hfz91_0 := zfr_fr hv1lp18_4 gm83
              have hfz91_1 := zfr_fr hfz91_0 gm88
              refine zw_115 zr_0_341 rfl ?_
              refine zw_42 zr_0_342 ?_
              refine zw_15 (c := 6) (L' := [(6, 0), (2, 0), (2, 69), (0, (i2 + 6))]) zr_0_1238 rfl (by decide) (by omega) rfl ?_
              refine zw_42 zr_0_1241 ?_
              exact zw_less (L := [(6, 0), (2, 0), (2, 69), (0, (i2 + 6))]) ⟨Or.inr rfl, Or.inr rfl, Or.inr rfl, Or.inr rfl, trivial⟩ (ihlp18_4 ((i2 + 6)) m88 hIm88 hFm88   (by omega) (by omega) (by assumption) (by assumption) (by omega))
        by_cases h94 : x9 = 3
        · refine zw_111 (t := 345) zr_0_33 (by rw [h94]; rfl) ?_
          refine zw_7 zr_0_345 rfl ?_
          refine zw_7s zr_0_346 rfl ?_
          refine zw_3 zr_0_347 rfl ?_
          refine zw_push zr_0_348 ?_
          refine zw_16 zr_0_349 (by omega) ?_
          refine zw_100 zr_0_350 rfl (by omega) (by omega) ?_
          intro x95 ex95 hx95a hx95b
          refine zw_7s zr_0_351 rfl ?_
          refine zw_3 zr_0_352 rfl ?_
          refine zw_push zr_0_353 ?_
          refine zw_16 zr_0_354 (by omega) ?_
          refine zw_100 zr_0_355 rfl (by omega) (by omega) ?_
          intro x96 ex96 hx96a hx96b
          refine zw_C zr_0_356 (Or.inl rfl) zm_105 rfl rfl ⟨Nat.le_of_ble_eq_true rfl, Nat.le_of_ble_eq_true rfl, Nat.le_of_ble_eq_true rfl, rfl, by decide⟩ (by omega) (th_105 (d := d - 1) (by omega) hIm3 (a0 := x95) (a1 := x96)   (F9 := m3 9)  rfl (by omega) (by omega) ) ?_
          rintro _ m97 ⟨r98, rfl, hr98a, hr98b, hIm97, gm97, po0_r98, po1_r98⟩
          have hFm97 : zFr W_0 m0 m97 := hFm3.trans gm97 rfl
          show zW E (d) 0 359 [(6, 0), (2, 0), (2, 69), (0, i2)] [(0, r98)] m97 Q
          refine zw_115 zr_0_359 rfl ?_
          refine zw_7 zr_0_360 rfl ?_
          refine zw_7s zr_0_361 rfl ?_
          refine zw_3 zr_0_362 rfl ?_
          refine zw_push zr_0_363 ?_
          refine zw_16 zr_0_364 (by omega) ?_
          refine zw_100k zr_0_365 rfl (by omega) (by omega) ex95.symm ?_
          refine zw_7s zr_0_366 rfl ?_
          refine zw_3 zr_0_367 rfl ?_
          refine zw_push zr_0_368 ?_
          refine zw_16 zr_0_369 (by omega) ?_
          refine zw_100k zr_0_370 rfl (by omega) (by omega) ex96.symm ?_
          refine zw_C zr_0_371 (Or.inl rfl) zm_149 rfl rfl ⟨Nat.le_of_ble_eq_true rfl, Nat.le_of_ble_eq_true rfl, Nat.le_of_ble_eq_true rfl, rfl, by decide⟩ (by omega) (th_149 (d := d - 1) (by omega) hIm97 (a0 := x95) (a1 := x96)   (F70 := m97 70)  rfl (by omega) (by omega) ) ?_
          rintro _ m99 ⟨r100, rfl, hr100a, hr100b, hIm99, gm99, po0_r100, po1_r100⟩
          have hFm99 : zFr W_0 m0 m99 := hFm97.trans gm99 rfl
          show zW E (d) 0 374 [(6, 0), (2, 0), (2, 69), (0, i2)] [(0, r100)] m99 Q
          obtain ⟨hkz101, hrz101⟩ := zk_first hIm3 hv0lp18_4 gm97 po0_r98 po1_r98 gm99 po0_r100 po1_r100
          have hfz102_0 := zfr_fr hv1lp18_4 gm97
          have hfz102_1 := zfr_fr hfz102_0 gm99
          refine zw_115 zr_0_374 rfl ?_
          refine zw_42 zr_0_375 ?_
          refine zw_15 (c := 6) (L' := [(6, 0), (2, 0), (2, 69), (0, (i2 + 6))]) zr_0_1238 rfl (by decide) (by omega) rfl ?_
          refine zw_42 zr_0_1241 ?_
          exact zw_less (L := [(6, 0), (2, 0), (2, 69), (0, (i2 + 6))]) ⟨Or.inr rfl, Or.inr rfl, Or.inr rfl, Or.inr rfl, trivial⟩ (ihlp18_4 ((i2 + 6)) m99 hIm99 hFm99   (by omega) (by omega) (by assumption) (by assumption) (by omega))
        by_cases h105 : x9 = 4
        · refine zw_111 (t := 378) zr_0_33 (by rw [h105]; rfl) ?_
          refine zw_7 zr_0_378 rfl ?_
          refine zw_7s zr_0_379 rfl ?_
          refine zw_3 zr_0_380 rfl ?_
          refine zw_push zr_0_381 ?_
          refine zw_16 zr_0_382 (by omega) ?_
          refine zw_100 zr_0_383 rfl (by omega) (by omega) ?_
          intro x106 ex106 hx106a hx106b
          refine zw_7s zr_0_384 rfl ?_
          refine zw_3 zr_0_385 rfl ?_
          refine zw_push zr_0_386 ?_
          refine zw_16 zr_0_387 (by omega) ?_
          refine zw_100 zr_0_388 rfl (by omega) (by omega) ?_
          intro x107 ex107 hx107a hx107b
          refine zw_C zr_0_389 (Or.inl rfl) zm_106 rfl rfl ⟨Nat.le_of_ble_eq_true rfl, Nat.le_of_ble_eq_true rfl, Nat.le_of_ble_eq_true rfl, rfl, by decide⟩ (by omega) (th_106 (d := d - 1) (by omega) hIm3 (a0 := x106) (a1 := x107)   (F10 := m3 10) (F11 := m3 11)  rfl rfl (by omega) (by omega) ) ?_
          rintro _ m108 ⟨r109, rfl, hr109a, hr109b, hIm108, gm108, po0_r109, po1_r109, po2_r109⟩
          have hFm108 : zFr W_0 m0 m108 := hFm3.trans gm108 rfl
          show zW E (d) 0 392 [(6, 0), (2, 0), (2, 69), (0, i2)] [(0, r109)] m108 Q
          refine zw_115 zr_0_392 rfl ?_
          refine zw_7 zr_0_393 rfl ?_
          refine zw_7s zr_0_394 rfl ?_
          refine zw_3 zr_0_395 rfl ?_
          refine zw_push zr_0_396 ?_
          refine zw_16 zr_0_397 (by omega) ?_
          refine zw_100k zr_0_398 rfl (by omega) (by omega) ex106.symm ?_
          refine zw_7s zr_0_399 rfl ?_
          refine zw_3 zr_0_400 rfl ?_
          refine zw_push zr_0_401 ?_
          refine zw_16 zr_0_402 (by omega) ?_
          refine zw_100k zr_0_403 rfl (by omega) (by omega) ex107.symm ?_
          refine zw_C zr_0_404 (Or.inl rfl) zm_150 rfl rfl ⟨Nat.le_of_ble_eq_true rfl, Nat.le_of_ble_eq_true rfl, Nat.le_of_ble_eq_true rfl, rfl, by decide⟩ (by omega) (th_150 (d := d - 1) (by omega) hIm108 (a0 := x106) (a1 := x107)   (F70 := m108 70)  rfl (by omega) (by omega) ) ?_
          rintro _ m110 ⟨r111, rfl, hr111a, hr111b, hIm110, gm110, po0_r111, po1_r111⟩
          have hFm110 : zFr W_0 m0 m110 := hFm108.trans gm110 rfl
          show zW E (d) 0 407 [(6, 0), (2, 0), (2, 69), (0, i2)] [(0, r111)] m110 Q
          obtain ⟨hkz112, hrz112⟩ := zk_write hIm3 hv0lp18_4 gm108 po0_r109 po1_r109 po2_r109 gm110 po0_r111 po1_r111
          have hfz113_0 := zfr_fr hv1lp18_4 gm108
          have hfz113_1 := zfr_fr hfz113_0 gm110
          refine zw_115 zr_0_407 rfl ?_
          refine zw_42 zr_0_408 ?_
          refine zw_15 (c := 6) (L' := [(6, 0), (2, 0), (2, 69), (0, (i2 + 6))]) zr_0_1238 rfl (by decide) (by omega) rfl ?_
          refine zw_42 zr_0_1241 ?_
          exact zw_less (L := [(6, 0), (2, 0), (2, 69), (0, (i2 + 6))]) ⟨Or.inr rfl, Or.inr rfl, Or.inr rfl, Or.inr rfl, trivial⟩ (ihlp18_4 ((i2 + 6)) m110 hIm110 hFm110   (by omega) (by omega) (by assumption) (by assumption) (by omega))
        by_cases h116 : x9 = 5
        · refine zw_111 (t := 411) zr_0_33 (by rw [h116]; rfl) ?_
          refine zw_7 zr_0_411 rfl ?_
          refine zw_7s zr_0_412 rfl ?_
          refine zw_3 zr_0_413 rfl ?_
          refine zw_push zr_0_414 ?_
          refine zw_16 zr_0_415 (by omega) ?_
          refine zw_100 zr_0_416 rfl (by omega) (by omega) ?_
          intro x117 ex117 hx117a hx117b
          refine zw_C zr_0_417 (Or.inl rfl) zm_107 rfl rfl ⟨Nat.le_of_ble_eq_true rfl, Nat.le_of_ble_eq_true rfl, Nat.le_of_ble_eq_true rfl, rfl, by decide⟩ (by omega) (th_107 (d := d - 1) (by omega) hIm3 (a0 := x117)   (F10 := m3 10)  rfl (by omega) ) ?_
          rintro _ m118 ⟨r119, rfl, hr119a, hr119b, hIm118, gm118, po0_r119, po1_r119⟩
          have hFm118 : zFr W_0 m0 m118 := hFm3.trans gm118 rfl
          show zW E (d) 0 420 [(6, 0), (2, 0), (2, 69), (0, i2)] [(0, r119)] m118 Q
          refine zw_115 zr_0_420 rfl ?_
          refine zw_7 zr_0_421 rfl ?_
          refine zw_7s zr_0_422 rfl ?_
          refine zw_3 zr_0_423 rfl ?_
          refine zw_push zr_0_424 ?_
          refine zw_16 zr_0_425 (by omega) ?_
          refine zw_100k zr_0_426 rfl (by omega) (by omega) ex117.symm ?_
          refine zw_C zr_0_427 (Or.inl rfl) zm_151 rfl rfl ⟨Nat.le_of_ble_eq_true rfl, Nat.le_of_ble_eq_true rfl, Nat.le_of_ble_eq_true rfl, rfl, by decide⟩ (by omega) (th_151 (d := d - 1) (by omega) hIm118 (a0 := x117)   (F70 := m118 70)  rfl (by omega) ) ?_
          rintro _ m120 ⟨r121, rfl, hr121a, hr121b, hIm120, gm120, po0_r121, po1_r121⟩
          have hFm120 : zFr W_0 m0 m120 := hFm118.trans gm120 rfl
          show zW E (d) 0 430 [(6, 0), (2, 0), (2, 69), (0, i2)] [(0, r121)] m120 Q
          obtain ⟨hkz122, hrz122⟩ := zk_erase hIm3 hv0lp18_4 gm118 po0_r119 po1_r119 gm120 po0_r121 po1_r121
          have hfz123_0 := zfr_fr hv1lp18_4 gm118
          have hfz123_1 := zfr_fr hfz123_0 gm120
          refine zw_115 zr_0_430 rfl ?_
          refine zw_42 zr_0_431 ?_
          refine zw_15 (c := 6) (L' := [(6, 0), (2, 0), (2, 69), (0, (i2 + 6))]) zr_0_1238 rfl (by decide) (by omega) rfl ?_
          refine zw_42 zr_0_1241 ?_
          exact zw_less (L := [(6, 0), (2, 0), (2, 69), (0, (i2 + 6))]) ⟨Or.inr rfl, Or.inr rfl, Or.inr rfl, Or.inr rfl, trivial⟩ (ihlp18_4 ((i2 + 6)) m120 hIm120 hFm120   (by omega) (by omega) (by assumption) (by assumption) (by omega))
        by_cases h126 : x9 = 6
        · refine zw_111 (t := 434) zr_0_33 (by rw [h126]; rfl) ?_
          refine zw_7 zr_0_434 rfl ?_
          refine zw_7s zr_0_435 rfl ?_
          refine zw_3 zr_0_436 rfl ?_
          refine zw_push zr_0_437 ?_
          refine zw_16 zr_0_438 (by omega) ?_
          refine zw_100 zr_0_439 rfl (by omega) (by omega) ?_
          intro x127 ex127 hx127a hx127b
          refine zw_C zr_0_440 (Or.inl rfl) zm_108 rfl rfl ⟨Nat.le_of_ble_eq_true rfl, Nat.le_of_ble_eq_true rfl, Nat.le_of_ble_eq_true rfl, rfl, by decide⟩ (by omega) (th_108 (d := d - 1) (by omega) hIm3 (a0 := x127)   (F10 := m3 10) (F11 := m3 11)  rfl rfl (by omega) ) ?_
          rintro _ m128 ⟨r129, rfl, hr129a, hr129b, hIm128, gm128, po0_r129⟩
          have hFm128 : zFr W_0 m0 m128 := hFm3.trans gm128 rfl
          show zW E (d) 0 443 [(6, 0), (2, 0), (2, 69), (0, i2)] [(0, r129)] m128 Q
          refine zw_115 zr_0_443 rfl ?_
          refine zw_7 zr_0_444 rfl ?_
          refine zw_7s zr_0_445 rfl ?_
          refine zw_3 zr_0_446 rfl ?_
          refine zw_push zr_0_447 ?_
          refine zw_16 zr_0_448 (by omega) ?_
          refine zw_100k zr_0_449 rfl (by omega) (by omega) ex127.symm ?_
          refine zw_C zr_0_450 (Or.inl rfl) zm_163 rfl rfl ⟨Nat.le_of_ble_eq_true rfl, Nat.le_of_ble_eq_true rfl, Nat.le_of_ble_eq_true rfl, rfl, by decide⟩ (by omega) (th_163 (d := d - 1) (by omega) hIm128 (a0 := x127)   (F70 := m128 70)  rfl (by omega) ) ?_
          rintro _ m130 ⟨r131, rfl, hr131a, hr131b, hIm130, gm130, po0_r131⟩
          have hFm130 : zFr W_0 m0 m130 := hFm128.trans gm130 rfl
          show zW E (d) 0 453 [(6, 0), (2, 0), (2, 69), (0, i2)] [(0, r131)] m130 Q
          have hkz132_0 := zk_fr hv0lp18_4 gm128
          have hkz132_1 := zk_fr hkz132_0 gm130
          have hqz133 := zq_fault hIm3 hv0lp18_4 gm128 po0_r129 po0_r131
          have hfz134_0 := zfr_fr hv1lp18_4 gm128
          have hfz134_1 := zfr_fr hfz134_0 gm130
          clear po0_r129 po0_r131
          refine zw_115 zr_0_453 rfl ?_
          refine zw_42 zr_0_454 ?_
          refine zw_15 (c := 6) (L' := [(6, 0), (2, 0), (2, 69), (0, (i2 + 6))]) zr_0_1238 rfl (by decide) (by omega) rfl ?_
          refine zw_42 zr_0_1241 ?_
          exact zw_less (L := [(6, 0), (2, 0), (2, 69), (0, (i2 + 6))]) ⟨Or.inr rfl, Or.inr rfl, Or.inr rfl, Or.inr rfl, trivial⟩ (ihlp18_4 ((i2 + 6)) m130 hIm130 hFm130   (by omega) (by omega) (by assumption) (by assumption) (by omega))
        by_cases h137 : x9 = 7
        · refine zw_111 (t := 457) zr_0_33 (by rw [h137]; rfl) ?_
          refine zw_7 zr_0_457 rfl ?_
          refine zw_7s zr_0_458 rfl ?_
          refine zw_3 zr_0_459 rfl ?_
          refine zw_push zr_0_460 ?_
          refine zw_16 zr_0_461 (by omega) ?_
          refine zw_100 zr_0_462 rfl (by omega) (by omega) ?_
          intro x138 ex138 hx138a hx138b
          refine zw_7s zr_0_463 rfl ?_
          refine zw_3 zr_0_464 rfl ?_
          refine zw_push zr_0_465 ?_
          refine zw_16 zr_0_466 (by omega) ?_
          refine zw_100 zr_0_467 rfl (by omega) (by omega) ?_
          intro x139 ex139 hx139a hx139b
          refine zw_7s zr_0_468 rfl ?_
          refine zw_3 zr_0_469 rfl ?_
          refine zw_push zr_0_470 ?_
          refine zw_16 zr_0_471 (by omega) ?_
          refine zw_100 zr_0_472 rfl (by omega) (by omega) ?_
          intro x140 ex140 hx140a hx140b
          obtain ⟨f141, ef141⟩ : ∃ v, m3 1 0 = v := ⟨_, rfl⟩
          have bf141 := ib_1_0 hIm3
          rw [ef141] at bf141
          obtain ⟨f142, ef142⟩ : ∃ v, m3 1 1 = v := ⟨_, rfl⟩
          have bf142 := ib_1_1 hIm3
          rw [ef142] at bf142
          obtain ⟨f143, ef143⟩ : ∃ v, m3 1 2 = v := ⟨_, rfl⟩
          have bf143 := ib_1_2 hIm3
          rw [ef143] at bf143
          refine zw_C zr_0_473 (Or.inl rfl) zm_109 rfl rfl ⟨Nat.le_of_ble_eq_true rfl, Nat.le_of_ble_eq_true rfl, Nat.le_of_ble_eq_true rfl, rfl, by decide⟩ (by omega) (th_109 (d := d - 1) (by omega) hIm3 (a0 := x138) (a1 := x139) (a2 := x140) (g0 := f141) (g1 := f142) (g2 := f143)  (F5 := m3 5) (F6 := m3 6) (F7 := m3 7) (F8 := m3 8) (F10 := m3 10) (F11 := m3 11) (F44 := m3 44) (F48 := m3 48) (F50 := m3 50) (F51 := m3 51) (F9 := m3 9) ef141 ef142 ef143 rfl rfl rfl rfl rfl rfl rfl rfl rfl rfl rfl (by omega) (by omega) (by omega) ) ?_
          rintro _ m144 ⟨r145, rfl, hr145a, hr145b, hIm144, gm144, po0_r145⟩
          have hFm144 : zFr W_0 m0 m144 := hFm3.trans gm144 rfl
          have km144_1_0 : m144 1 0 = f141 := (gm144 1 0 rfl).trans ef141
          have km144_1_1 : m144 1 1 = f142 := (gm144 1 1 rfl).trans ef142
          have km144_1_2 : m144 1 2 = f143 := (gm144 1 2 rfl).trans ef143
          show zW E (d) 0 476 [(6, 0), (2, 0), (2, 69), (0, i2)] [(0, r145)] m144 Q
          refine zw_115 zr_0_476 rfl ?_
          refine zw_7 zr_0_477 rfl ?_
          refine zw_7s zr_0_478 rfl ?_
          refine zw_3 zr_0_479 rfl ?_
          refine zw_push zr_0_480 ?_
          refine zw_16 zr_0_481 (by omega) ?_
          refine zw_100k zr_0_482 rfl (by omega) (by omega) ex138.symm ?_
          refine zw_7s zr_0_483 rfl ?_
          refine zw_3 zr_0_484 rfl ?_
          refine zw_push zr_0_485 ?_
          refine zw_16 zr_0_486 (by omega) ?_
          refine zw_100k zr_0_487 rfl (by omega) (by omega) ex139.symm ?_
          refine zw_7s zr_0_488 rfl ?_
          refine zw_3 zr_0_489 rfl ?_
          refine zw_push zr_0_490 ?_
          refine zw_16 zr_0_491 (by omega) ?_
          refine zw_100k zr_0_492 rfl (by omega) (by omega) ex140.symm ?_
          obtain ⟨f146, ef146⟩ : ∃ v, m144 70 822 = v := ⟨_, rfl⟩
          have bf146 : 0 ≤ m144 70 822 ∧ m144 70 822 ≤ 10 := ib_70_players hIm144 (by omega)
          rw [ef146] at bf146
          obtain ⟨f147, ef147⟩ : ∃ v, m144 70 823 = v := ⟨_, rfl⟩
          have bf147 : 0 ≤ m144 70 823 ∧ m144 70 823 ≤ 60 := ib_70_meetings hIm144 (by omega)
          rw [ef147] at bf147
          refine zw_C zr_0_493 (Or.inl rfl) zm_168 rfl rfl ⟨Nat.le_of_ble_eq_true rfl, Nat.le_of_ble_eq_true rfl, Nat.le_of_ble_eq_true rfl, rfl, by decide⟩ (by omega) (th_168 (d := d - 1) (by omega) hIm144 (a0 := x138) (a1 := x139) (a2 := x140) (g0 := f146) (g1 := f147)  (F70 := m144 70) (F76 := m144 76) (F77 := m144 77) (F78 := m144 78) ef146 ef147 rfl rfl rfl rfl (by omega) (by omega) (by omega) ) ?_
          rintro _ m148 ⟨r149, rfl, hr149a, hr149b, hIm148, gm148, po0_r149⟩
          have hFm148 : zFr W_0 m0 m148 := hFm144.trans gm148 rfl
          have km148_1_0 : m148 1 0 = f141 := (gm148 1 0 rfl).trans km144_1_0
          have km148_1_1 : m148 1 1 = f142 := (gm148 1 1 rfl).trans km144_1_1
          have km148_1_2 : m148 1 2 = f143 := (gm148 1 2 rfl).trans km144_1_2
          have km148_70_822 : m148 70 822 = f146 := (gm148 70 822 rfl).trans ef146
          have km148_70_823 : m148 70 823 = f147 := (gm148 70 823 rfl).trans ef147
          show zW E (d) 0 496 [(6, 0), (2, 0), (2, 69), (0, i2)] [(0, r149)] m148 Q
          have hkz150_0 := zk_fr hv0lp18_4 gm144
          have hkz150_1 := zk_fr hkz150_0 gm148
          have hqz151 := zq_number hIm3 hv0lp18_4 gm144 ef141 ef142 ef143 po0_r145 ef146 ef147 po0_r149
          have hfz152_0 := zfr_fr hv1lp18_4 gm144
          have hfz152_1 := zfr_fr hfz152_0 gm148
          clear po0_r145 po0_r149
          refine zw_115 zr_0_496 rfl ?_
          refine zw_42 zr_0_497 ?_
          refine zw_15 (c := 6) (L' := [(6, 0), (2, 0), (2, 69), (0, (i2 + 6))]) zr_0_1238 rfl (by decide) (by omega) rfl ?_
          refine zw_42 zr_0_1241 ?_
          exact zw_less (L := [(6, 0), (2, 0), (2, 69), (0, (i2 + 6))]) ⟨Or.inr rfl, Or.inr rfl, Or.inr rfl, Or.inr rfl, trivial⟩ (ihlp18_4 ((i2 + 6)) m148 hIm148 hFm148   (by omega) (by omega) (by assumption) (by assumption) (by omega))
        by_cases h155 : x9 = 8
        · refine zw_111 (t := 500) zr_0_33 (by rw [h155]; rfl) ?_
          refine zw_7 zr_0_500 rfl ?_
          refine zw_7s zr_0_501 rfl ?_
          refine zw_3 zr_0_502 rfl ?_
          refine zw_push zr_0_503 ?_
          refine zw_16 zr_0_504 (by omega) ?_
          refine zw_100 zr_0_505 rfl (by omega) (by omega) ?_
          intro x156 ex156 hx156a hx156b
          refine zw_7s zr_0_506 rfl ?_
          refine zw_3 zr_0_507 rfl ?_
          refine zw_push zr_0_508 ?_
          refine zw_16 zr_0_509 (by omega) ?_
          refine zw_100 zr_0_510 rfl (by omega) (by omega) ?_
          intro x157 ex157 hx157a hx157b
          obtain ⟨f158, ef158⟩ : ∃ v, m3 1 1 = v := ⟨_, rfl⟩
          have bf158 := ib_1_1 hIm3
          rw [ef158] at bf158
          obtain ⟨f159, ef159⟩ : ∃ v, m3 1 2 = v := ⟨_, rfl⟩
          have bf159 := ib_1_2 hIm3
          rw [ef159] at bf159
          refine zw_C zr_0_511 (Or.inl rfl) zm_110 rfl rfl ⟨Nat.le_of_ble_eq_true rfl, Nat.le_of_ble_eq_true rfl, Nat.le_of_ble_eq_true rfl, rfl, by decide⟩ (by omega) (th_110 (d := d - 1) (by omega) hIm3 (a0 := x156) (a1 := x157) (g0 := f158) (g1 := f159)  (F5 := m3 5) (F6 := m3 6) (F7 := m3 7) (F8 := m3 8) (F10 := m3 10) (F11 := m3 11) (F44 := m3 44) (F48 := m3 48) (F50 := m3 50) (F51 := m3 51) (F9 := m3 9) ef158 ef159 rfl rfl rfl rfl rfl rfl rfl rfl rfl rfl rfl (by omega) (by omega) ) ?_
          rintro _ m160 ⟨r161, rfl, hr161a, hr161b, hIm160, gm160, po0_r161⟩
          have hFm160 : zFr W_0 m0 m160 := hFm3.trans gm160 rfl
          have km160_1_1 : m160 1 1 = f158 := (gm160 1 1 rfl).trans ef158
          have km160_1_2 : m160 1 2 = f159 := (gm160 1 2 rfl).trans ef159
          show zW E (d) 0 514 [(6, 0), (2, 0), (2, 69), (0, i2)] [(0, r161)] m160 Q
          refine zw_115 zr_0_514 rfl ?_
          refine zw_7 zr_0_515 rfl ?_
          refine zw_7s zr_0_516 rfl ?_
          refine zw_3 zr_0_517 rfl ?_
          refine zw_push zr_0_518 ?_
          refine zw_16 zr_0_519 (by omega) ?_
          refine zw_100k zr_0_520 rfl (by omega) (by omega) ex156.symm ?_
          refine zw_7s zr_0_521 rfl ?_
          refine zw_3 zr_0_522 rfl ?_
          refine zw_push zr_0_523 ?_
          refine zw_16 zr_0_524 (by omega) ?_
          refine zw_100k zr_0_525 rfl (by omega) (by omega) ex157.symm ?_
          obtain ⟨f162, ef162⟩ : ∃ v, m160 70 823 = v := ⟨_, rfl⟩
          have bf162 : 0 ≤ m160 70 823 ∧ m160 70 823 ≤ 60 := ib_70_meetings hIm160 (by omega)
          rw [ef162] at bf162
          refine zw_C zr_0_526 (Or.inl rfl) zm_170 rfl rfl ⟨Nat.le_of_ble_eq_true rfl, Nat.le_of_ble_eq_true rfl, Nat.le_of_ble_eq_true rfl, rfl, by decide⟩ (by omega) (th_170 (d := d - 1) (by omega) hIm160 (a0 := x156) (a1 := x157) (g0 := f162)  (F70 := m160 70) (F76 := m160 76) (F77 := m160 77) (F78 := m160 78) ef162 rfl rfl rfl rfl (by omega) (by omega) ) ?_
          rintro _ m163 ⟨r164, rfl, hr164a, hr164b, hIm163, gm163, po0_r164⟩
          have hFm163 : zFr W_0 m0 m163 := hFm160.trans gm163 rfl
          have km163_1_1 : m163 1 1 = f158 := (gm163 1 1 rfl).trans km160_1_1
          have km163_1_2 : m163 1 2 = f159 := (gm163 1 2 rfl).trans km160_1_2
          have km163_70_823 : m163 70 823 = f162 := (gm163 70 823 rfl).trans ef162
          show zW E (d) 0 529 [(6, 0), (2, 0), (2, 69), (0, i2)] [(0, r164)] m163 Q
          have hkz165_0 := zk_fr hv0lp18_4 gm160
          have hkz165_1 := zk_fr hkz165_0 gm163
          have hqz166 := zq_paid hIm3 hv0lp18_4 gm160 ef158 ef159 po0_r161 ef162 po0_r164
          have hfz167_0 := zfr_fr hv1lp18_4 gm160
          have hfz167_1 := zfr_fr hfz167_0 gm163
          clear po0_r161 po0_r164
          refine zw_115 zr_0_529 rfl ?_
          refine zw_42 zr_0_530 ?_
          refine zw_15 (c := 6) (L' := [(6, 0), (2, 0), (2, 69), (0, (i2 + 6))]) zr_0_1238 rfl (by decide) (by omega) rfl ?_
          refine zw_42 zr_0_1241 ?_
          exact zw_less (L := [(6, 0), (2, 0), (2, 69), (0, (i2 + 6))]) ⟨Or.inr rfl, Or.inr rfl, Or.inr rfl, Or.inr rfl, trivial⟩ (ihlp18_4 ((i2 + 6)) m163 hIm163 hFm163   (by omega) (by omega) (by assumption) (by assumption) (by omega))
        by_cases h170 : x9 = 9
        · refine zw_111 (t := 533) zr_0_33 (by rw [h170]; rfl) ?_
          refine zw_7 zr_0_533 rfl ?_
          refine zw_7s zr_0_534 rfl ?_
          refine zw_3 zr_0_535 rfl ?_
          refine zw_push zr_0_536 ?_
          refine zw_16 zr_0_537 (by omega) ?_
          refine zw_100 zr_0_538 rfl (by omega) (by omega) ?_
          intro x171 ex171 hx171a hx171b
          refine zw_7s zr_0_539 rfl ?_
          refine zw_3 zr_0_540 rfl ?_
          refine zw_push zr_0_541 ?_
          refine zw_16 zr_0_542 (by omega) ?_
          refine zw_100 zr_0_543 rfl (by omega) (by omega) ?_
          intro x172 ex172 hx172a hx172b
          refine zw_7s zr_0_544 rfl ?_
          refine zw_3 zr_0_545 rfl ?_
          refine zw_push zr_0_546 ?_
          refine zw_16 zr_0_547 (by omega) ?_
          refine zw_100 zr_0_548 rfl (by omega) (by omega) ?_
          intro x173 ex173 hx173a hx173b
          obtain ⟨f174, ef174⟩ : ∃ v, m3 1 0 = v := ⟨_, rfl⟩
          have bf174 := ib_1_0 hIm3
          rw [ef174] at bf174
          obtain ⟨f175, ef175⟩ : ∃ v, m3 1 1 = v := ⟨_, rfl⟩
          have bf175 := ib_1_1 hIm3
          rw [ef175] at bf175
          obtain ⟨f176, ef176⟩ : ∃ v, m3 1 2 = v := ⟨_, rfl⟩
          have bf176 := ib_1_2 hIm3
          rw [ef176] at bf176
          obtain ⟨f177, ef177⟩ : ∃ v, m3 42 0 = v := ⟨_, rfl⟩
          have bf177 := hIm3.fl (c := 42) (k := 0) rfl
          rw [ef177] at bf177
          obtain ⟨f178, ef178⟩ : ∃ v, m3 42 1 = v := ⟨_, rfl⟩
          have bf178 := hIm3.fl (c := 42) (k := 1) rfl
          rw [ef178] at bf178
          refine zw_C zr_0_549 (Or.inl rfl) zm_111 rfl rfl ⟨Nat.le_of_ble_eq_true rfl, Nat.le_of_ble_eq_true rfl, Nat.le_of_ble_eq_true rfl, rfl, by decide⟩ (by omega) (th_111 (d := d - 1) (by omega) hIm3 (a0 := x171) (a1 := x172) (a2 := x173) (g0 := f174) (g1 := f175) (g2 := f176) (g3 := f177) (g4 := f178)  (F5 := m3 5) (F6 := m3 6) (F7 := m3 7) (F8 := m3 8) (F10 := m3 10) (F11 := m3 11) (F44 := m3 44) (F48 := m3 48) (F50 := m3 50) (F51 := m3 51) (F9 := m3 9) ef174 ef175 ef176 ef177 ef178 rfl rfl rfl rfl rfl rfl rfl rfl rfl rfl rfl (by omega) (by omega) (by omega) (qK_so hv0lp18_4 ef175 (by omega)) (qK_pl hv0lp18_4 ef175 ef174)) ?_
          rintro _ m181 ⟨r182, rfl, hr182a, hr182b, hIm181, gm181, po0_r182, po1_r182⟩
          have hFm181 : zFr W_0 m0 m181 := hFm3.trans gm181 rfl
          have km181_1_0 : m181 1 0 = f174 := (gm181 1 0 rfl).trans ef174
          have km181_1_1 : m181 1 1 = f175 := (gm181 1 1 rfl).trans ef175
          have km181_1_2 : m181 1 2 = f176 := (gm181 1 2 rfl).trans ef176
          show zW E (d) 0 552 [(6, 0), (2, 0), (2, 69), (0, i2)] [(0, r182)] m181 Q
          refine zw_7 zr_0_552 rfl ?_
          refine zw_7s zr_0_553 rfl ?_
          refine zw_3 zr_0_554 rfl ?_
          refine zw_push zr_0_555 ?_
          refine zw_16 zr_0_556 (by omega) ?_
          refine zw_100k zr_0_557 rfl (by omega) (by omega) ex171.symm ?_
          refine zw_7s zr_0_558 rfl ?_
          refine zw_3 zr_0_559 rfl ?_
          refine zw_push zr_0_560 ?_
          refine zw_16 zr_0_561 (by omega) ?_
          refine zw_100k zr_0_562 rfl (by omega) (by omega) ex172.symm ?_
          refine zw_7s zr_0_563 rfl ?_
          refine zw_3 zr_0_564 rfl ?_
          refine zw_push zr_0_565 ?_
          refine zw_16 zr_0_566 (by omega) ?_
          refine zw_100k zr_0_567 rfl (by omega) (by omega) ex173.symm ?_
          obtain ⟨f183, ef183⟩ : ∃ v, m181 70 822 = v := ⟨_, rfl⟩
          have bf183 : 0 ≤ m181 70 822 ∧ m181 70 822 ≤ 10 := ib_70_players hIm181 (by omega)
          rw [ef183] at bf183
          obtain ⟨f184, ef184⟩ : ∃ v, m181 70 823 = v := ⟨_, rfl⟩
          have bf184 : 0 ≤ m181 70 823 ∧ m181 70 823 ≤ 60 := ib_70_meetings hIm181 (by omega)
          rw [ef184] at bf184
          obtain ⟨f185, ef185⟩ : ∃ v, m181 69 3 = v := ⟨_, rfl⟩
          have bf185 := hIm181.fl (c := 69) (k := 3) rfl
          rw [ef185] at bf185
          obtain ⟨f186, ef186⟩ : ∃ v, m181 69 4 = v := ⟨_, rfl⟩
          have bf186 := hIm181.fl (c := 69) (k := 4) rfl
          rw [ef186] at bf186
          refine zw_C zr_0_568 (Or.inl rfl) zm_174 rfl rfl ⟨Nat.le_of_ble_eq_true rfl, Nat.le_of_ble_eq_true rfl, Nat.le_of_ble_eq_true rfl, rfl, by decide⟩ (by omega) (th_174 (d := d - 1) (by omega) hIm181 (a0 := x171) (a1 := x172) (a2 := x173) (g0 := f183) (g1 := f184) (g2 := f185) (g3 := f186)  (F70 := m181 70) (F76 := m181 76) (F77 := m181 77) (F78 := m181 78) (F79 := m181 79) ef183 ef184 ef185 ef186 rfl rfl rfl rfl rfl (by omega) (by omega) (by omega) (qK_sr (zk_fr hv0lp18_4 gm181) ef184 (by omega))) ?_
          rintro _ m188 ⟨r189, rfl, hr189a, hr189b, hIm188, gm188, po0_r189, po1_r189⟩
          have hFm188 : zFr W_0 m0 m188 := hFm181.trans gm188 rfl
          have km188_1_0 : m188 1 0 = f174 := (gm188 1 0 rfl).trans km181_1_0
          have km188_1_1 : m188 1 1 = f175 := (gm188 1 1 rfl).trans km181_1_1
          have km188_1_2 : m188 1 2 = f176 := (gm188 1 2 rfl).trans km181_1_2
          have km188_70_822 : m188 70 822 = f183 := (gm188 70 822 rfl).trans ef183
          have km188_70_823 : m188 70 823 = f184 := (gm188 70 823 rfl).trans ef184
          show zW E (d) 0 571 [(6, 0), (2, 0), (2, 69), (0, i2)] [(0, r189), (0, r182)] m188 Q
          have hkz190_0 := zk_fr hv0lp18_4 gm181
          have hkz190_1 := zk_fr hkz190_0 gm188
          have hqz191 := zq_creep hIm3 hv0lp18_4 gm181 ef174 ef175 ef176 ef177 ef178 po0_r182 po1_r182 ef183 ef184 ef185 ef186 po0_r189 po1_r189
          have hfz192 := zfr_2 (zf_creep hIm3 hv0lp18_4 hv1lp18_4 gm181 ef174 ef175 ef176 ef177 ef178 po0_r182 po1_r182 ef183 ef184 ef185 ef186 po0_r189 po1_r189) gm188
          clear po1_r182 po1_r189
          refine zw_41_1 zr_0_571 ?_ ?_
          · intro h193
            refine zw_15 (c := 6) (L' := [(6, 0), (2, 0), (2, 69), (0, (i2 + 6))]) zr_0_1238 rfl (by decide) (by omega) rfl ?_
            refine zw_42 zr_0_1241 ?_
            exact zw_less (L := [(6, 0), (2, 0), (2, 69), (0, (i2 + 6))]) ⟨Or.inr rfl, Or.inr rfl, Or.inr rfl, Or.inr rfl, trivial⟩ (ihlp18_4 ((i2 + 6)) m188 hIm188 hFm188   (by omega) (by omega) (by assumption) (by assumption) (by omega))
          · intro h196
            refine zw_push zr_0_574 ?_
            refine zw_R zr_0_575 (by decide) zm_0 (v := (0, 0)) (zRetB (by omega)) ?_
            rw [← hQ]; exact ⟨_, rfl, by omega, by omega, hIm188, hFm188⟩
        by_cases h197 : x9 = 10
        · refine zw_111 (t := 576) zr_0_33 (by rw [h197]; rfl) ?_
          refine zw_7 zr_0_576 rfl ?_
          refine zw_7s zr_0_577 rfl ?_
          refine zw_3 zr_0_578 rfl ?_
          refine zw_push zr_0_579 ?_
          refine zw_16 zr_0_580 (by omega) ?_
          refine zw_100 zr_0_581 rfl (by omega) (by omega) ?_
          intro x198 ex198 hx198a hx198b
          refine zw_7s zr_0_582 rfl ?_
          refine zw_3 zr_0_583 rfl ?_
          refine zw_push zr_0_584 ?_
          refine zw_16 zr_0_585 (by omega) ?_
          refine zw_100 zr_0_586 rfl (by omega) (by omega) ?_
          intro x199 ex199 hx199a hx199b
          refine zw_7s zr_0_587 rfl ?_
          refine zw_3 zr_0_588 rfl ?_
          refine zw_push zr_0_589 ?_
          refine zw_16 zr_0_590 (by omega) ?_
          refine zw_100 zr_0_591 rfl (by omega) (by omega) ?_
          intro x200 ex200 hx200a hx200b
          obtain ⟨f201, ef201⟩ : ∃ v, m3 1 0 = v := ⟨_, rfl⟩
          have bf201 := ib_1_0 hIm3
          rw [ef201] at bf201
          obtain ⟨f202, ef202⟩ : ∃ v, m3 1 1 = v := ⟨_, rfl⟩
          have bf202 := ib_1_1 hIm3
          rw [ef202] at bf202
          obtain ⟨f203, ef203⟩ : ∃ v, m3 1 2 = v := ⟨_, rfl⟩
          have bf203 := ib_1_2 hIm3
          rw [ef203] at bf203
          refine zw_C zr_0_592 (Or.inl rfl) zm_112 rfl rfl ⟨Nat.le_of_ble_eq_true rfl, Nat.le_of_ble_eq_true rfl, Nat.le_of_ble_eq_true rfl, rfl, by decide⟩ (by omega) (th_112 (d := d - 1) (by omega) hIm3 (a0 := x198) (a1 := x199) (a2 := x200) (g0 := f201) (g1 := f202) (g2 := f203)  (F5 := m3 5) (F6 := m3 6) (F7 := m3 7) (F8 := m3 8) (F10 := m3 10) (F11 := m3 11) (F44 := m3 44) (F48 := m3 48) (F50 := m3 50) (F51 := m3 51) (F9 := m3 9) ef201 ef202 ef203 rfl rfl rfl rfl rfl rfl rfl rfl rfl rfl rfl (by omega) (by omega) (by omega) ) ?_
          rintro _ m204 ⟨r205, rfl, hr205a, hr205b, hIm204, gm204, po0_r205⟩
          have hFm204 : zFr W_0 m0 m204 := hFm3.trans gm204 rfl
          have km204_1_0 : m204 1 0 = f201 := (gm204 1 0 rfl).trans ef201
          have km204_1_1 : m204 1 1 = f202 := (gm204 1 1 rfl).trans ef202
          have km204_1_2 : m204 1 2 = f203 := (gm204 1 2 rfl).trans ef203
          show zW E (d) 0 595 [(6, 0), (2, 0), (2, 69), (0, i2)] [(0, r205)] m204 Q
          refine zw_115 zr_0_595 rfl ?_
          refine zw_7 zr_0_596 rfl ?_
          refine zw_7s zr_0_597 rfl ?_
          refine zw_3 zr_0_598 rfl ?_
          refine zw_push zr_0_599 ?_
          refine zw_16 zr_0_600 (by omega) ?_
          refine zw_100k zr_0_601 rfl (by omega) (by omega) ex198.symm ?_
          refine zw_7s zr_0_602 rfl ?_
          refine zw_3 zr_0_603 rfl ?_
          refine zw_push zr_0_604 ?_
          refine zw_16 zr_0_605 (by omega) ?_
          refine zw_100k zr_0_606 rfl (by omega) (by omega) ex199.symm ?_
          refine zw_7s zr_0_607 rfl ?_
          refine zw_3 zr_0_608 rfl ?_
          refine zw_push zr_0_609 ?_
          refine zw_16 zr_0_610 (by omega) ?_
          refine zw_100k zr_0_611 rfl (by omega) (by omega) ex200.symm ?_
          obtain ⟨f206, ef206⟩ : ∃ v, m204 70 822 = v := ⟨_, rfl⟩
          have bf206 : 0 ≤ m204 70 822 ∧ m204 70 822 ≤ 10 := ib_70_players hIm204 (by omega)
          rw [ef206] at bf206
          obtain ⟨f207, ef207⟩ : ∃ v, m204 70 823 = v := ⟨_, rfl⟩
          have bf207 : 0 ≤ m204 70 823 ∧ m204 70 823 ≤ 60 := ib_70_meetings hIm204 (by omega)
          rw [ef207] at bf207
          refine zw_C zr_0_612 (Or.inl rfl) zm_175 rfl rfl ⟨Nat.le_of_ble_eq_true rfl, Nat.le_of_ble_eq_true rfl, Nat.le_of_ble_eq_true rfl, rfl, by decide⟩ (by omega) (th_175 (d := d - 1) (by omega) hIm204 (a0 := x198) (a1 := x199) (a2 := x200) (g0 := f206) (g1 := f207)  (F70 := m204 70) (F76 := m204 76) (F77 := m204 77) (F78 := m204 78) ef206 ef207 rfl rfl rfl rfl (by omega) (by omega) (by omega) ) ?_
          rintro _ m208 ⟨r209, rfl, hr209a, hr209b, hIm208, gm208, po0_r209⟩
          have hFm208 : zFr W_0 m0 m208 := hFm204.trans gm208 rfl
          have km208_1_0 : m208 1 0 = f201 := (gm208 1 0 rfl).trans km204_1_0
          have km208_1_1 : m208 1 1 = f202 := (gm208 1 1 rfl).trans km204_1_1
          have km208_1_2 : m208 1 2 = f203 := (gm208 1 2 rfl).trans km204_1_2
          have km208_70_822 : m208 70 822 = f206 := (gm208 70 822 rfl).trans ef206
          have km208_70_823 : m208 70 823 = f207 := (gm208 70 823 rfl).trans ef207
          show zW E (d) 0 615 [(6, 0), (2, 0), (2, 69), (0, i2)] [(0, r209)] m208 Q
          have hkz210_0 := zk_fr hv0lp18_4 gm204
          have hkz210_1 := zk_fr hkz210_0 gm208
          have hqz211 := zq_hiding hIm3 hv0lp18_4 gm204 ef201 ef202 ef203 po0_r205 ef206 ef207 po0_r209
          have hfz212_0 := zfr_fr hv1lp18_4 gm204
          have hfz212_1 := zfr_fr hfz212_0 gm208
          clear po0_r205 po0_r209
          refine zw_115 zr_0_615 rfl ?_
          refine zw_42 zr_0_616 ?_
          refine zw_15 (c := 6) (L' := [(6, 0), (2, 0), (2, 69), (0, (i2 + 6))]) zr_0_1238 rfl (by decide) (by omega) rfl ?_
          refine zw_42 zr_0_1241 ?_
          exact zw_less (L := [(6, 0), (2, 0), (2, 69), (0, (i2 + 6))]) ⟨Or.inr rfl, Or.inr rfl, Or.inr rfl, Or.inr rfl, trivial⟩ (ihlp18_4 ((i2 + 6)) m208 hIm208 hFm208   (by omega) (by omega) (by assumption) (by assumption) (by omega))
        by_cases h215 : x9 = 11
        · refine zw_111 (t := 619) zr_0_33 (by rw [h215]; rfl) ?_
          refine zw_7 zr_0_619 rfl ?_
          refine zw_7s zr_0_620 rfl ?_
          refine zw_3 zr_0_621 rfl ?_
          refine zw_push zr_0_622 ?_
          refine zw_16 zr_0_623 (by omega) ?_
          refine zw_100 zr_0_624 rfl (by omega) (by omega) ?_
          intro x216 ex216 hx216a hx216b
          obtain ⟨f217, ef217⟩ : ∃ v, m3 1 1 = v := ⟨_, rfl⟩
          have bf217 := ib_1_1 hIm3
          rw [ef217] at bf217
          obtain ⟨f218, ef218⟩ : ∃ v, m3 1 2 = v := ⟨_, rfl⟩
          have bf218 := ib_1_2 hIm3
          rw [ef218] at bf218
          refine zw_C zr_0_625 (Or.inl rfl) zm_113 rfl rfl ⟨Nat.le_of_ble_eq_true rfl, Nat.le_of_ble_eq_true rfl, Nat.le_of_ble_eq_true rfl, rfl, by decide⟩ (by omega) (th_113 (d := d - 1) (by omega) hIm3 (a0 := x216) (g0 := f217) (g1 := f218)  (F5 := m3 5) (F6 := m3 6) (F7 := m3 7) (F8 := m3 8) (F10 := m3 10) (F11 := m3 11) (F44 := m3 44) (F48 := m3 48) (F50 := m3 50) (F51 := m3 51) (F9 := m3 9) ef217 ef218 rfl rfl rfl rfl rfl rfl rfl rfl rfl rfl rfl (by omega) ) ?_
          rintro _ m219 ⟨r220, rfl, hr220a, hr220b, hIm219, gm219, po0_r220⟩
          have hFm219 : zFr W_0 m0 m219 := hFm3.trans gm219 rfl
          have km219_1_1 : m219 1 1 = f217 := (gm219 1 1 rfl).trans ef217
          have km219_1_2 : m219 1 2 = f218 := (gm219 1 2 rfl).trans ef218
          show zW E (d) 0 628 [(6, 0), (2, 0), (2, 69), (0, i2)] [(0, r220)] m219 Q
          refine zw_115 zr_0_628 rfl ?_
          refine zw_7 zr_0_629 rfl ?_
          refine zw_7s zr_0_630 rfl ?_
          refine zw_3 zr_0_631 rfl ?_
          refine zw_push zr_0_632 ?_
          refine zw_16 zr_0_633 (by omega) ?_
          refine zw_100k zr_0_634 rfl (by omega) (by omega) ex216.symm ?_
          obtain ⟨f221, ef221⟩ : ∃ v, m219 70 823 = v := ⟨_, rfl⟩
          have bf221 : 0 ≤ m219 70 823 ∧ m219 70 823 ≤ 60 := ib_70_meetings hIm219 (by omega)
          rw [ef221] at bf221
          refine zw_C zr_0_635 (Or.inl rfl) zm_177 rfl rfl ⟨Nat.le_of_ble_eq_true rfl, Nat.le_of_ble_eq_true rfl, Nat.le_of_ble_eq_true rfl, rfl, by decide⟩ (by omega) (th_177 (d := d - 1) (by omega) hIm219 (a0 := x216) (g0 := f221)  (F70 := m219 70) ef221 rfl (by omega) ) ?_
          rintro _ m222 ⟨r223, rfl, hr223a, hr223b, hIm222, gm222, po0_r223⟩
          have hFm222 : zFr W_0 m0 m222 := hFm219.trans gm222 rfl
          have km222_1_1 : m222 1 1 = f217 := (gm222 1 1 rfl).trans km219_1_1
          have km222_1_2 : m222 1 2 = f218 := (gm222 1 2 rfl).trans km219_1_2
          have km222_70_823 : m222 70 823 = f221 := (gm222 70 823 rfl).trans ef221
          show zW E (d) 0 638 [(6, 0), (2, 0), (2, 69), (0, i2)] [(0, r223)] m222 Q
          have hkz224_0 := zk_fr hv0lp18_4 gm219
          have hkz224_1 := zk_fr hkz224_0 gm222
          have hqz225 := zq_foretold hIm3 hv0lp18_4 gm219 ef217 ef218 po0_r220 ef221 po0_r223
          have hfz226_0 := zfr_fr hv1lp18_4 gm219
          have hfz226_1 := zfr_fr hfz226_0 gm222
          clear po0_r220 po0_r223
          refine zw_115 zr_0_638 rfl ?_
          refine zw_42 zr_0_639 ?_
          refine zw_15 (c := 6) (L' := [(6, 0), (2, 0), (2, 69), (0, (i2 + 6))]) zr_0_1238 rfl (by decide) (by omega) rfl ?_
          refine zw_42 zr_0_1241 ?_
          exact zw_less (L := [(6, 0), (2, 0), (2, 69), (0, (i2 + 6))]) ⟨Or.inr rfl, Or.inr rfl, Or.inr rfl, Or.inr rfl, trivial⟩ (ihlp18_4 ((i2 + 6)) m222 hIm222 hFm222   (by omega) (by omega) (by assumption) (by assumption) (by omega))
        by_cases h229 : x9 = 12
        · refine zw_111 (t := 642) zr_0_33 (by rw [h229]; rfl) ?_
          refine zw_7 zr_0_642 rfl ?_
          obtain ⟨f230, ef230⟩ : ∃ v, m3 1 1 = v := ⟨_, rfl⟩
          have bf230 := ib_1_1 hIm3
          rw [ef230] at bf230
          obtain ⟨f231, ef231⟩ : ∃ v, m3 1 2 = v := ⟨_, rfl⟩
          have bf231 := ib_1_2 hIm3
          rw [ef231] at bf231
          refine zw_C zr_0_643 (Or.inl rfl) zm_114 rfl rfl ⟨Nat.le_of_ble_eq_true rfl, Nat.le_of_ble_eq_true rfl, Nat.le_of_ble_eq_true rfl, rfl, by decide⟩ (by omega) (th_114 (d := d - 1) (by omega) hIm3  (g0 := f230) (g1 := f231)  (F5 := m3 5) (F6 := m3 6) (F7 := m3 7) (F8 := m3 8) (F10 := m3 10) (F11 := m3 11) (F44 := m3 44) (F48 := m3 48) (F50 := m3 50) (F51 := m3 51) (F9 := m3 9) ef230 ef231 rfl rfl rfl rfl rfl rfl rfl rfl rfl rfl rfl  ) ?_
          rintro _ m232 ⟨r233, rfl, hr233a, hr233b, hIm232, gm232, po0_r233⟩
          have hFm232 : zFr W_0 m0 m232 := hFm3.trans gm232 rfl
          have km232_1_1 : m232 1 1 = f230 := (gm232 1 1 rfl).trans ef230
          have km232_1_2 : m232 1 2 = f231 := (gm232 1 2 rfl).trans ef231
          show zW E (d) 0 646 [(6, 0), (2, 0), (2, 69), (0, i2)] [(0, r233)] m232 Q
          refine zw_115 zr_0_646 rfl ?_
          refine zw_7 zr_0_647 rfl ?_
          obtain ⟨f234, ef234⟩ : ∃ v, m232 70 823 = v := ⟨_, rfl⟩
          have bf234 : 0 ≤ m232 70 823 ∧ m232 70 823 ≤ 60 := ib_70_meetings hIm232 (by omega)
          rw [ef234] at bf234
          refine zw_C zr_0_648 (Or.inl rfl) zm_178 rfl rfl ⟨Nat.le_of_ble_eq_true rfl, Nat.le_of_ble_eq_true rfl, Nat.le_of_ble_eq_true rfl, rfl, by decide⟩ (by omega) (th_178 (d := d - 1) (by omega) hIm232  (g0 := f234)  (F70 := m232 70) (F75 := m232 75) ef234 rfl rfl  ) ?_
          rintro _ m235 ⟨r236, rfl, hr236a, hr236b, hIm235, gm235, po0_r236⟩
          have hFm235 : zFr W_0 m0 m235 := hFm232.trans gm235 rfl
          have km235_1_1 : m235 1 1 = f230 := (gm235 1 1 rfl).trans km232_1_1
          have km235_1_2 : m235 1 2 = f231 := (gm235 1 2 rfl).trans km232_1_2
          have km235_70_823 : m235 70 823 = f234 := (gm235 70 823 rfl).trans ef234
          show zW E (d) 0 651 [(6, 0), (2, 0), (2, 69), (0, i2)] [(0, r236)] m235 Q
          have hkz237_0 := zk_fr hv0lp18_4 gm232
          have hkz237_1 := zk_fr hkz237_0 gm235
          have hqz238 := zq_bestSystem hIm3 hv0lp18_4 gm232 ef230 ef231 po0_r233 ef234 po0_r236
          have hfz239_0 := zfr_fr hv1lp18_4 gm232
          have hfz239_1 := zfr_fr hfz239_0 gm235
          clear po0_r233 po0_r236
          refine zw_115 zr_0_651 rfl ?_
          refine zw_42 zr_0_652 ?_
          refine zw_15 (c := 6) (L' := [(6, 0), (2, 0), (2, 69), (0, (i2 + 6))]) zr_0_1238 rfl (by decide) (by omega) rfl ?_
          refine zw_42 zr_0_1241 ?_
          exact zw_less (L := [(6, 0), (2, 0), (2, 69), (0, (i2 + 6))]) ⟨Or.inr rfl, Or.inr rfl, Or.inr rfl, Or.inr rfl, trivial⟩ (ihlp18_4 ((i2 + 6)) m235 hIm235 hFm235   (by omega) (by omega) (by assumption) (by assumption) (by omega))
        by_cases h242 : x9 = 13
        · refine zw_111 (t := 655) zr_0_33 (by rw [h242]; rfl) ?_
          refine zw_7 zr_0_655 rfl ?_
          refine zw_7s zr_0_656 rfl ?_
          refine zw_3 zr_0_657 rfl ?_
          refine zw_push zr_0_658 ?_
          refine zw_16 zr_0_659 (by omega) ?_
          refine zw_100 zr_0_660 rfl (by omega) (by omega) ?_
          intro x243 ex243 hx243a hx243b
          refine zw_7s zr_0_661 rfl ?_
          refine zw_3 zr_0_662 rfl ?_
          refine zw_push zr_0_663 ?_
          refine zw_16 zr_0_664 (by omega) ?_
          refine zw_100 zr_0_665 rfl (by omega) (by omega) ?_
          intro x244 ex244 hx244a hx244b
          refine zw_C zr_0_666 (Or.inl rfl) zm_115 rfl rfl ⟨Nat.le_of_ble_eq_true rfl, Nat.le_of_ble_eq_true rfl, Nat.le_of_ble_eq_true rfl, rfl, by decide⟩ (by omega) (th_115 (d := d - 1) (by omega) hIm3 (a0 := x243) (a1 := x244)   (F12 := m3 12)  rfl (by omega) (by omega) ) ?_
          rintro _ m245 ⟨r246, rfl, hr246a, hr246b, hIm245, gm245, po0_r246, po1_r246⟩
          have hFm245 : zFr W_0 m0 m245 := hFm3.trans gm245 rfl
          show zW E (d) 0 669 [(6, 0), (2, 0), (2, 69), (0, i2)] [(0, r246)] m245 Q
          refine zw_115 zr_0_669 rfl ?_
          refine zw_7 zr_0_670 rfl ?_
          refine zw_7s zr_0_671 rfl ?_
          refine zw_3 zr_0_672 rfl ?_
          refine zw_push zr_0_673 ?_
          refine zw_16 zr_0_674 (by omega) ?_
          refine zw_100k zr_0_675 rfl (by omega) (by omega) ex243.symm ?_
          refine zw_7s zr_0_676 rfl ?_
          refine zw_3 zr_0_677 rfl ?_
          refine zw_push zr_0_678 ?_
          refine zw_16 zr_0_679 (by omega) ?_
          refine zw_100k zr_0_680 rfl (by omega) (by omega) ex244.symm ?_
          refine zw_C zr_0_681 (Or.inl rfl) zm_179 rfl rfl ⟨Nat.le_of_ble_eq_true rfl, Nat.le_of_ble_eq_true rfl, Nat.le_of_ble_eq_true rfl, rfl, by decide⟩ (by omega) (th_179 (d := d - 1) (by omega) hIm245 (a0 := x243) (a1 := x244)   (F70 := m245 70)  rfl (by omega) (by omega) ) ?_
          rintro _ m247 ⟨r248, rfl, hr248a, hr248b, hIm247, gm247, po0_r248, po1_r248⟩
          have hFm247 : zFr W_0 m0 m247 := hFm245.trans gm247 rfl
          show zW E (d) 0 684 [(6, 0), (2, 0), (2, 69), (0, i2)] [(0, r248)] m247 Q
          obtain ⟨hkz249, hrz249⟩ := zk_shape hIm3 hv0lp18_4 gm245 po0_r246 po1_r246 gm247 po0_r248 po1_r248
          have hfz250_0 := zfr_fr hv1lp18_4 gm245
          have hfz250_1 := zfr_fr hfz250_0 gm247
          refine zw_115 zr_0_684 rfl ?_
          refine zw_42 zr_0_685 ?_
          refine zw_15 (c := 6) (L' := [(6, 0), (2, 0), (2, 69), (0, (i2 + 6))]) zr_0_1238 rfl (by decide) (by omega) rfl ?_
          refine zw_42 zr_0_1241 ?_
          exact zw_less (L := [(6, 0), (2, 0), (2, 69), (0, (i2 + 6))]) ⟨Or.inr rfl, Or.inr rfl, Or.inr rfl, Or.inr rfl, trivial⟩ (ihlp18_4 ((i2 + 6)) m247 hIm247 hFm247   (by omega) (by omega) (by assumption) (by assumption) (by omega))
        by_cases h253 : x9 = 14
        · refine zw_111 (t := 688) zr_0_33 (by rw [h253]; rfl) ?_
          refine zw_7 zr_0_688 rfl ?_
          refine zw_7s zr_0_689 rfl ?_
          refine zw_3 zr_0_690 rfl ?_
          refine zw_push zr_0_691 ?_
          refine zw_16 zr_0_692 (by omega) ?_
          refine zw_100 zr_0_693 rfl (by omega) (by omega) ?_
          intro x254 ex254 hx254a hx254b
          refine zw_7s zr_0_694 rfl ?_
          refine zw_3 zr_0_695 rfl ?_
          refine zw_push zr_0_696 ?_
          refine zw_16 zr_0_697 (by omega) ?_
          refine zw_100 zr_0_698 rfl (by omega) (by omega) ?_
          intro x255 ex255 hx255a hx255b
          obtain ⟨f256, ef256⟩ : ∃ v, m3 1 4 = v := ⟨_, rfl⟩
          have bf256 := ib_1_4 hIm3
          rw [ef256] at bf256
          obtain ⟨f257, ef257⟩ : ∃ v, m3 1 5 = v := ⟨_, rfl⟩
          have bf257 := ib_1_5 hIm3
          rw [ef257] at bf257
          refine zw_C zr_0_699 (Or.inl rfl) zm_116 rfl rfl ⟨Nat.le_of_ble_eq_true rfl, Nat.le_of_ble_eq_true rfl, Nat.le_of_ble_eq_true rfl, rfl, by decide⟩ (by omega) (th_116 (d := d - 1) (by omega) hIm3 (a0 := x254) (a1 := x255) (g0 := f256) (g1 := f257)   ef256 ef257  (by omega) (by omega) ) ?_
          rintro _ m258 ⟨r259, rfl, hr259a, hr259b, hIm258, gm258, po0_r259, po1_r259⟩
          have hFm258 : zFr W_0 m0 m258 := hFm3.trans gm258 rfl
          show zW E (d) 0 702 [(6, 0), (2, 0), (2, 69), (0, i2)] [(0, r259)] m258 Q
          refine zw_115 zr_0_702 rfl ?_
          refine zw_7 zr_0_703 rfl ?_
          refine zw_7s zr_0_704 rfl ?_
          refine zw_3 zr_0_705 rfl ?_
          refine zw_push zr_0_706 ?_
          refine zw_16 zr_0_707 (by omega) ?_
          refine zw_100k zr_0_708 rfl (by omega) (by omega) ex254.symm ?_
          refine zw_7s zr_0_709 rfl ?_
          refine zw_3 zr_0_710 rfl ?_
          refine zw_push zr_0_711 ?_
          refine zw_16 zr_0_712 (by omega) ?_
          refine zw_100k zr_0_713 rfl (by omega) (by omega) ex255.symm ?_
          refine zw_C zr_0_714 (Or.inl rfl) zm_180 rfl rfl ⟨Nat.le_of_ble_eq_true rfl, Nat.le_of_ble_eq_true rfl, Nat.le_of_ble_eq_true rfl, rfl, by decide⟩ (by omega) (th_180 (d := d - 1) (by omega) hIm258 (a0 := x254) (a1 := x255)   (F70 := m258 70)  rfl (by omega) (by omega) ) ?_
          rintro _ m260 ⟨r261, rfl, hr261a, hr261b, hIm260, gm260, po0_r261, po1_r261⟩
          have hFm260 : zFr W_0 m0 m260 := hFm258.trans gm260 rfl
          show zW E (d) 0 717 [(6, 0), (2, 0), (2, 69), (0, i2)] [(0, r261)] m260 Q
          obtain ⟨hkz262, hrz262⟩ := zk_wide hIm3 hv0lp18_4 gm258 ef256 ef257 po0_r259 po1_r259 gm260 po0_r261 po1_r261
          have hfz263_0 := zfr_fr hv1lp18_4 gm258
          have hfz263_1 := zfr_fr hfz263_0 gm260
          refine zw_115 zr_0_717 rfl ?_
          refine zw_42 zr_0_718 ?_
          refine zw_15 (c := 6) (L' := [(6, 0), (2, 0), (2, 69), (0, (i2 + 6))]) zr_0_1238 rfl (by decide) (by omega) rfl ?_
          refine zw_42 zr_0_1241 ?_
          exact zw_less (L := [(6, 0), (2, 0), (2, 69), (0, (i2 + 6))]) ⟨Or.inr rfl, Or.inr rfl, Or.inr rfl, Or.inr rfl, trivial⟩ (ihlp18_4 ((i2 + 6)) m260 hIm260 hFm260   (by omega) (by omega) (by assumption) (by assumption) (by omega))
        by_cases h266 : x9 = 15
        · refine zw_111 (t := 721) zr_0_33 (by rw [h266]; rfl) ?_
          refine zw_7 zr_0_721 rfl ?_
          refine zw_C zr_0_722 (Or.inl rfl) zm_117 rfl rfl ⟨Nat.le_of_ble_eq_true rfl, Nat.le_of_ble_eq_true rfl, Nat.le_of_ble_eq_true rfl, rfl, by decide⟩ (by omega) (th_117 (d := d - 1) (by omega) hIm3        ) ?_
          rintro _ m267 ⟨r268, rfl, hr268a, hr268b, hIm267, gm267⟩
          have hFm267 : zFr W_0 m0 m267 := hFm3.trans gm267 rfl
          show zW E (d) 0 725 [(6, 0), (2, 0), (2, 69), (0, i2)] [(0, r268)] m267 Q
          refine zw_115 zr_0_725 rfl ?_
          refine zw_7 zr_0_726 rfl ?_
          refine zw_C zr_0_727 (Or.inl rfl) zm_185 rfl rfl ⟨Nat.le_of_ble_eq_true rfl, Nat.le_of_ble_eq_true rfl, Nat.le_of_ble_eq_true rfl, rfl, by decide⟩ (by omega) (th_185 (d := d - 1) (by omega) hIm267        ) ?_
          rintro _ m269 ⟨r270, rfl, hr270a, hr270b, hIm269, gm269⟩
          have hFm269 : zFr W_0 m0 m269 := hFm267.trans gm269 rfl
          show zW E (d) 0 730 [(6, 0), (2, 0), (2, 69), (0, i2)] [(0, r270)] m269 Q
          have hkz271_0 := zk_fr hv0lp18_4 gm267
          have hkz271_1 := zk_fr hkz271_0 gm269
          have hfz272_0 := zfr_fr hv1lp18_4 gm267
          have hfz272_1 := zfr_fr hfz272_0 gm269
          refine zw_115 zr_0_730 rfl ?_
          refine zw_42 zr_0_731 ?_
          refine zw_15 (c := 6) (L' := [(6, 0), (2, 0), (2, 69), (0, (i2 + 6))]) zr_0_1238 rfl (by decide) (by omega) rfl ?_
          refine zw_42 zr_0_1241 ?_
          exact zw_less (L := [(6, 0), (2, 0), (2, 69), (0, (i2 + 6))]) ⟨Or.inr rfl, Or.inr rfl, Or.inr rfl, Or.inr rfl, trivial⟩ (ihlp18_4 ((i2 + 6)) m269 hIm269 hFm269   (by omega) (by omega) (by assumption) (by assumption) (by omega))
        by_cases h275 : x9 = 16
        · refine zw_111 (t := 734) zr_0_33 (by rw [h275]; rfl) ?_
          refine zw_7 zr_0_734 rfl ?_
          refine zw_7s zr_0_735 rfl ?_
          refine zw_3 zr_0_736 rfl ?_
          refine zw_push zr_0_737 ?_
          refine zw_16 zr_0_738 (by omega) ?_
          refine zw_100 zr_0_739 rfl (by omega) (by omega) ?_
          intro x276 ex276 hx276a hx276b
          refine zw_7s zr_0_740 rfl ?_
          refine zw_3 zr_0_741 rfl ?_
          refine zw_push zr_0_742 ?_
          refine zw_16 zr_0_743 (by omega) ?_
          refine zw_100 zr_0_744 rfl (by omega) (by omega) ?_
          intro x277 ex277 hx277a hx277b
          refine zw_7s zr_0_745 rfl ?_
          refine zw_3 zr_0_746 rfl ?_
          refine zw_push zr_0_747 ?_
          refine zw_16 zr_0_748 (by omega) ?_
          refine zw_100 zr_0_749 rfl (by omega) (by omega) ?_
          intro x278 ex278 hx278a hx278b
          refine zw_C zr_0_750 (Or.inl rfl) zm_118 rfl rfl ⟨Nat.le_of_ble_eq_true rfl, Nat.le_of_ble_eq_true rfl, Nat.le_of_ble_eq_true rfl, rfl, by decide⟩ (by omega) (th_118 (d := d - 1) (by omega) hIm3 (a0 := x276) (a1 := x277) (a2 := x278)      (by omega) (by omega) (by omega) ) ?_
          rintro _ m279 ⟨r280, rfl, hr280a, hr280b, hIm279, gm279⟩
          have hFm279 : zFr W_0 m0 m279 := hFm3.trans gm279 rfl
          show zW E (d) 0 753 [(6, 0), (2, 0), (2, 69), (0, i2)] [(0, r280)] m279 Q
          refine zw_115 zr_0_753 rfl ?_
          refine zw_7 zr_0_754 rfl ?_
          refine zw_7s zr_0_755 rfl ?_
          refine zw_3 zr_0_756 rfl ?_
          refine zw_push zr_0_757 ?_
          refine zw_16 zr_0_758 (by omega) ?_
          refine zw_100k zr_0_759 rfl (by omega) (by omega) ex276.symm ?_
          refine zw_7s zr_0_760 rfl ?_
          refine zw_3 zr_0_761 rfl ?_
          refine zw_push zr_0_762 ?_
          refine zw_16 zr_0_763 (by omega) ?_
          refine zw_100k zr_0_764 rfl (by omega) (by omega) ex277.symm ?_
          refine zw_7s zr_0_765 rfl ?_
          refine zw_3 zr_0_766 rfl ?_
          refine zw_push zr_0_767 ?_
          refine zw_16 zr_0_768 (by omega) ?_
          refine zw_100k zr_0_769 rfl (by omega) (by omega) ex278.symm ?_
          refine zw_C zr_0_770 (Or.inl rfl) zm_186 rfl rfl ⟨Nat.le_of_ble_eq_true rfl, Nat.le_of_ble_eq_true rfl, Nat.le_of_ble_eq_true rfl, rfl, by decide⟩ (by omega) (th_186 (d := d - 1) (by omega) hIm279 (a0 := x276) (a1 := x277) (a2 := x278)      (by omega) (by omega) (by omega) ) ?_
          rintro _ m281 ⟨r282, rfl, hr282a, hr282b, hIm281, gm281⟩
          have hFm281 : zFr W_0 m0 m281 := hFm279.trans gm281 rfl
          show zW E (d) 0 773 [(6, 0), (2, 0), (2, 69), (0, i2)] [(0, r282)] m281 Q
          have hkz283_0 := zk_fr hv0lp18_4 gm279
          have hkz283_1 := zk_fr hkz283_0 gm281
          have hfz284_0 := zfr_fr hv1lp18_4 gm279
          have hfz284_1 := zfr_fr hfz284_0 gm281
          refine zw_115 zr_0_773 rfl ?_
          refine zw_42 zr_0_774 ?_
          refine zw_15 (c := 6) (L' := [(6, 0), (2, 0), (2, 69), (0, (i2 + 6))]) zr_0_1238 rfl (by decide) (by omega) rfl ?_
          refine zw_42 zr_0_1241 ?_
          exact zw_less (L := [(6, 0), (2, 0), (2, 69), (0, (i2 + 6))]) ⟨Or.inr rfl, Or.inr rfl, Or.inr rfl, Or.inr rfl, trivial⟩ (ihlp18_4 ((i2 + 6)) m281 hIm281 hFm281   (by omega) (by omega) (by assumption) (by assumption) (by omega))
        by_cases h287 : x9 = 17
        · refine zw_111 (t := 777) zr_0_33 (by rw [h287]; rfl) ?_
          refine zw_7 zr_0_777 rfl ?_
          refine zw_C zr_0_778 (Or.inl rfl) zm_119 rfl rfl ⟨Nat.le_of_ble_eq_true rfl, Nat.le_of_ble_eq_true rfl, Nat.le_of_ble_eq_true rfl, rfl, by decide⟩ (by omega) (th_119 (d := d - 1) (by omega) hIm3        ) ?_
          rintro _ m288 ⟨r289, rfl, hr289a, hr289b, hIm288, gm288⟩
          have hFm288 : zFr W_0 m0 m288 := hFm3.trans gm288 rfl
          show zW E (d) 0 781 [(6, 0), (2, 0), (2, 69), (0, i2)] [(1, r289)] m288 Q
          refine zw_116 zr_0_781 rfl ?_
          refine zw_7 zr_0_782 rfl ?_
          refine zw_C zr_0_783 (Or.inl rfl) zm_187 rfl rfl ⟨Nat.le_of_ble_eq_true rfl, Nat.le_of_ble_eq_true rfl, Nat.le_of_ble_eq_true rfl, rfl, by decide⟩ (by omega) (th_187 (d := d - 1) (by omega) hIm288        ) ?_
          rintro _ m290 ⟨r291, rfl, hr291a, hr291b, hIm290, gm290⟩
          have hFm290 : zFr W_0 m0 m290 := hFm288.trans gm290 rfl
          show zW E (d) 0 786 [(6, 0), (2, 0), (2, 69), (0, i2)] [(1, r291)] m290 Q
          have hkz292_0 := zk_fr hv0lp18_4 gm288
          have hkz292_1 := zk_fr hkz292_0 gm290
          have hfz293_0 := zfr_fr hv1lp18_4 gm288
          have hfz293_1 := zfr_fr hfz293_0 gm290
          refine zw_116 zr_0_786 rfl ?_
          refine zw_42 zr_0_787 ?_
          refine zw_15 (c := 6) (L' := [(6, 0), (2, 0), (2, 69), (0, (i2 + 6))]) zr_0_1238 rfl (by decide) (by omega) rfl ?_
          refine zw_42 zr_0_1241 ?_
          exact zw_less (L := [(6, 0), (2, 0), (2, 69), (0, (i2 + 6))]) ⟨Or.inr rfl, Or.inr rfl, Or.inr rfl, Or.inr rfl, trivial⟩ (ihlp18_4 ((i2 + 6)) m290 hIm290 hFm290   (by omega) (by omega) (by assumption) (by assumption) (by omega))
        by_cases h296 : x9 = 18
        · refine zw_111 (t := 790) zr_0_33 (by rw [h296]; rfl) ?_
          refine zw_7 zr_0_790 rfl ?_
          refine zw_7s zr_0_791 rfl ?_
          refine zw_3 zr_0_792 rfl ?_
          refine zw_push zr_0_793 ?_
          refine zw_16 zr_0_794 (by omega) ?_
          refine zw_100 zr_0_795 rfl (by omega) (by omega) ?_
          intro x297 ex297 hx297a hx297b
          obtain ⟨f298, ef298⟩ : ∃ v, m3 1 0 = v := ⟨_, rfl⟩
          have bf298 := ib_1_0 hIm3
          rw [ef298] at bf298
          obtain ⟨f299, ef299⟩ : ∃ v, m3 1 1 = v := ⟨_, rfl⟩
          have bf299 := ib_1_1 hIm3
          rw [ef299] at bf299
          obtain ⟨f300, ef300⟩ : ∃ v, m3 1 2 = v := ⟨_, rfl⟩
          have bf300 := ib_1_2 hIm3
          rw [ef300] at bf300
          obtain ⟨f301, ef301⟩ : ∃ v, m3 1 3 = v := ⟨_, rfl⟩
          have bf301 := ib_1_3 hIm3
          rw [ef301] at bf301
          refine zw_C zr_0_796 (Or.inl rfl) zm_120 rfl rfl ⟨Nat.le_of_ble_eq_true rfl, Nat.le_of_ble_eq_true rfl, Nat.le_of_ble_eq_true rfl, rfl, by decide⟩ (by omega) (th_120 (d := d - 1) (by omega) hIm3 (a0 := x297) (g0 := f298) (g1 := f299) (g2 := f300) (g3 := f301)  (F6 := m3 6) (F7 := m3 7) ef298 ef299 ef300 ef301 rfl rfl (by omega) ) ?_
          rintro _ m302 ⟨r303, rfl, hr303a, hr303b, hIm302, gm302, po0_r303⟩
          have hFm302 : zFr W_0 m0 m302 := hFm3.trans gm302 rfl
          have km302_1_0 : m302 1 0 = f298 := (gm302 1 0 rfl).trans ef298
          have km302_1_1 : m302 1 1 = f299 := (gm302 1 1 rfl).trans ef299
          have km302_1_2 : m302 1 2 = f300 := (gm302 1 2 rfl).trans ef300
          have km302_1_3 : m302 1 3 = f301 := (gm302 1 3 rfl).trans ef301
          show zW E (d) 0 799 [(6, 0), (2, 0), (2, 69), (0, i2)] [(0, r303)] m302 Q
          refine zw_115 zr_0_799 rfl ?_
          refine zw_7 zr_0_800 rfl ?_
          refine zw_7s zr_0_801 rfl ?_
          refine zw_3 zr_0_802 rfl ?_
          refine zw_push zr_0_803 ?_
          refine zw_16 zr_0_804 (by omega) ?_
          refine zw_100k zr_0_805 rfl (by omega) (by omega) ex297.symm ?_
          obtain ⟨f304, ef304⟩ : ∃ v, m302 70 822 = v := ⟨_, rfl⟩
          have bf304 : 0 ≤ m302 70 822 ∧ m302 70 822 ≤ 10 := ib_70_players hIm302 (by omega)
          rw [ef304] at bf304
          obtain ⟨f305, ef305⟩ : ∃ v, m302 70 823 = v := ⟨_, rfl⟩
          have bf305 : 0 ≤ m302 70 823 ∧ m302 70 823 ≤ 60 := ib_70_meetings hIm302 (by omega)
          rw [ef305] at bf305
          refine zw_C zr_0_806 (Or.inl rfl) zm_190 rfl rfl ⟨Nat.le_of_ble_eq_true rfl, Nat.le_of_ble_eq_true rfl, Nat.le_of_ble_eq_true rfl, rfl, by decide⟩ (by omega) (th_190 (d := d - 1) (by omega) hIm302 (a0 := x297) (g0 := f304) (g1 := f305)  (F70 := m302 70) ef304 ef305 rfl (by omega) ) ?_
          rintro _ m306 ⟨r307, rfl, hr307a, hr307b, hIm306, gm306, po0_r307⟩
          have hFm306 : zFr W_0 m0 m306 := hFm302.trans gm306 rfl
          have km306_1_0 : m306 1 0 = f298 := (gm306 1 0 rfl).trans km302_1_0
          have km306_1_1 : m306 1 1 = f299 := (gm306 1 1 rfl).trans km302_1_1
          have km306_1_2 : m306 1 2 = f300 := (gm306 1 2 rfl).trans km302_1_2
          have km306_1_3 : m306 1 3 = f301 := (gm306 1 3 rfl).trans km302_1_3
          have km306_70_822 : m306 70 822 = f304 := (gm306 70 822 rfl).trans ef304
          have km306_70_823 : m306 70 823 = f305 := (gm306 70 823 rfl).trans ef305
          show zW E (d) 0 809 [(6, 0), (2, 0), (2, 69), (0, i2)] [(0, r307)] m306 Q
          have hkz308_0 := zk_fr hv0lp18_4 gm302
          have hkz308_1 := zk_fr hkz308_0 gm306
          have hqz309 := zq_island hIm3 hv0lp18_4 gm302 ef298 ef299 ef300 ef301 po0_r303 ef304 ef305 po0_r307
          have hfz310_0 := zfr_fr hv1lp18_4 gm302
          have hfz310_1 := zfr_fr hfz310_0 gm306
          refine zw_115 zr_0_809 rfl ?_
          refine zw_42 zr_0_810 ?_
          refine zw_15 (c := 6) (L' := [(6, 0), (2, 0), (2, 69), (0, (i2 + 6))]) zr_0_1238 rfl (by decide) (by omega) rfl ?_
          refine zw_42 zr_0_1241 ?_
          exact zw_less (L := [(6, 0), (2, 0), (2, 69), (0, (i2 + 6))]) ⟨Or.inr rfl, Or.inr rfl, Or.inr rfl, Or.inr rfl, trivial⟩ (ihlp18_4 ((i2 + 6)) m306 hIm306 hFm306   (by omega) (by omega) (by assumption) (by assumption) (by omega))
        by_cases h313 : x9 = 19
        · refine zw_111 (t := 813) zr_0_33 (by rw [h313]; rfl) ?_
          refine zw_7 zr_0_813 rfl ?_
          refine zw_7s zr_0_814 rfl ?_
          refine zw_3 zr_0_815 rfl ?_
          refine zw_push zr_0_816 ?_
          refine zw_16 zr_0_817 (by omega) ?_
          refine zw_100 zr_0_818 rfl (by omega) (by omega) ?_
          intro x314 ex314 hx314a hx314b
          refine zw_7s zr_0_819 rfl ?_
          refine zw_3 zr_0_820 rfl ?_
          refine zw_push zr_0_821 ?_
          refine zw_16 zr_0_822 (by omega) ?_
          refine zw_100 zr_0_823 rfl (by omega) (by omega) ?_
          intro x315 ex315 hx315a hx315b
          refine zw_7s zr_0_824 rfl ?_
          refine zw_3 zr_0_825 rfl ?_
          refine zw_push zr_0_826 ?_
          refine zw_16 zr_0_827 (by omega) ?_
          refine zw_100 zr_0_828 rfl (by omega) (by omega) ?_
          intro x316 ex316 hx316a hx316b
          refine zw_C zr_0_829 (Or.inl rfl) zm_121 rfl rfl ⟨Nat.le_of_ble_eq_true rfl, Nat.le_of_ble_eq_true rfl, Nat.le_of_ble_eq_true rfl, rfl, by decide⟩ (by omega) (th_121 (d := d - 1) (by omega) hIm3 (a0 := x314) (a1 := x315) (a2 := x316)      (by omega) (by omega) (by omega) ) ?_
          rintro _ m317 ⟨r318, rfl, hr318a, hr318b, hIm317, gm317⟩
          have hFm317 : zFr W_0 m0 m317 := hFm3.trans gm317 rfl
          show zW E (d) 0 832 [(6, 0), (2, 0), (2, 69), (0, i2)] [(0, r318)] m317 Q
          refine zw_115 zr_0_832 rfl ?_
          refine zw_7 zr_0_833 rfl ?_
          refine zw_7s zr_0_834 rfl ?_
          refine zw_3 zr_0_835 rfl ?_
          refine zw_push zr_0_836 ?_
          refine zw_16 zr_0_837 (by omega) ?_
          refine zw_100k zr_0_838 rfl (by omega) (by omega) ex314.symm ?_
          refine zw_7s zr_0_839 rfl ?_
          refine zw_3 zr_0_840 rfl ?_
          refine zw_push zr_0_841 ?_
          refine zw_16 zr_0_842 (by omega) ?_
          refine zw_100k zr_0_843 rfl (by omega) (by omega) ex315.symm ?_
          refine zw_7s zr_0_844 rfl ?_
          refine zw_3 zr_0_845 rfl ?_
          refine zw_push zr_0_846 ?_
          refine zw_16 zr_0_847 (by omega) ?_
          refine zw_100k zr_0_848 rfl (by omega) (by omega) ex316.symm ?_
          refine zw_C zr_0_849 (Or.inl rfl) zm_191 rfl rfl ⟨Nat.le_of_ble_eq_true rfl, Nat.le_of_ble_eq_true rfl, Nat.le_of_ble_eq_true rfl, rfl, by decide⟩ (by omega) (th_191 (d := d - 1) (by omega) hIm317 (a0 := x314) (a1 := x315) (a2 := x316)      (by omega) (by omega) (by omega) ) ?_
          rintro _ m319 ⟨r320, rfl, hr320a, hr320b, hIm319, gm319⟩
          have hFm319 : zFr W_0 m0 m319 := hFm317.trans gm319 rfl
          show zW E (d) 0 852 [(6, 0), (2, 0), (2, 69), (0, i2)] [(0, r320)] m319 Q
          have hkz321_0 := zk_fr hv0lp18_4 gm317
          have hkz321_1 := zk_fr hkz321_0 gm319
          have hfz322_0 := zfr_fr hv1lp18_4 gm317
          have hfz322_1 := zfr_fr hfz322_0 gm319
          refine zw_115 zr_0_852 rfl ?_
          refine zw_42 zr_0_853 ?_
          refine zw_15 (c := 6) (L' := [(6, 0), (2, 0), (2, 69), (0, (i2 + 6))]) zr_0_1238 rfl (by decide) (by omega) rfl ?_
          refine zw_42 zr_0_1241 ?_
          exact zw_less (L := [(6, 0), (2, 0), (2, 69), (0, (i2 + 6))]) ⟨Or.inr rfl, Or.inr rfl, Or.inr rfl, Or.inr rfl, trivial⟩ (ihlp18_4 ((i2 + 6)) m319 hIm319 hFm319   (by omega) (by omega) (by assumption) (by assumption) (by omega))
        by_cases h325 : x9 = 20
        · refine zw_111 (t := 856) zr_0_33 (by rw [h325]; rfl) ?_
          refine zw_7 zr_0_856 rfl ?_
          obtain ⟨f326, ef326⟩ : ∃ v, m3 1 0 = v := ⟨_, rfl⟩
          have bf326 := ib_1_0 hIm3
          rw [ef326] at bf326
          obtain ⟨f327, ef327⟩ : ∃ v, m3 1 1 = v := ⟨_, rfl⟩
          have bf327 := ib_1_1 hIm3
          rw [ef327] at bf327
          obtain ⟨f328, ef328⟩ : ∃ v, m3 1 2 = v := ⟨_, rfl⟩
          have bf328 := ib_1_2 hIm3
          rw [ef328] at bf328
          obtain ⟨f329, ef329⟩ : ∃ v, m3 1 3 = v := ⟨_, rfl⟩
          have bf329 := ib_1_3 hIm3
          rw [ef329] at bf329
          refine zw_C zr_0_857 (Or.inl rfl) zm_122 rfl rfl ⟨Nat.le_of_ble_eq_true rfl, Nat.le_of_ble_eq_true rfl, Nat.le_of_ble_eq_true rfl, rfl, by decide⟩ (by omega) (th_122 (d := d - 1) (by omega) hIm3  (g0 := f326) (g1 := f327) (g2 := f328) (g3 := f329)  (F6 := m3 6) (F7 := m3 7) ef326 ef327 ef328 ef329 rfl rfl  (qK_pl hv0lp18_4 ef327 ef326)) ?_
          rintro _ m331 ⟨r332, rfl, hr332a, hr332b, hIm331, gm331, po0_r332, po1_r332⟩
          have hFm331 : zFr W_0 m0 m331 := hFm3.trans gm331 rfl
          have km331_1_0 : m331 1 0 = f326 := (gm331 1 0 rfl).trans ef326
          have km331_1_1 : m331 1 1 = f327 := (gm331 1 1 rfl).trans ef327
          have km331_1_2 : m331 1 2 = f328 := (gm331 1 2 rfl).trans ef328
          have km331_1_3 : m331 1 3 = f329 := (gm331 1 3 rfl).trans ef329
          show zW E (d) 0 860 [(6, 0), (2, 0), (2, 69), (0, i2)] [(1, r332)] m331 Q
          refine zw_116 zr_0_860 rfl ?_
          refine zw_7 zr_0_861 rfl ?_
          obtain ⟨f333, ef333⟩ : ∃ v, m331 70 823 = v := ⟨_, rfl⟩
          have bf333 : 0 ≤ m331 70 823 ∧ m331 70 823 ≤ 60 := ib_70_meetings hIm331 (by omega)
          rw [ef333] at bf333
          refine zw_C zr_0_862 (Or.inl rfl) zm_192 rfl rfl ⟨Nat.le_of_ble_eq_true rfl, Nat.le_of_ble_eq_true rfl, Nat.le_of_ble_eq_true rfl, rfl, by decide⟩ (by omega) (th_192 (d := d - 1) (by omega) hIm331  (g0 := f333)  (F70 := m331 70) (F81 := m331 81) ef333 rfl rfl  ) ?_
          rintro _ m334 ⟨r335, rfl, hr335a, hr335b, hIm334, gm334, po0_r335, po1_r335⟩
          have hFm334 : zFr W_0 m0 m334 := hFm331.trans gm334 rfl
          have km334_1_0 : m334 1 0 = f326 := (gm334 1 0 rfl).trans km331_1_0
          have km334_1_1 : m334 1 1 = f327 := (gm334 1 1 rfl).trans km331_1_1
          have km334_1_2 : m334 1 2 = f328 := (gm334 1 2 rfl).trans km331_1_2
          have km334_1_3 : m334 1 3 = f329 := (gm334 1 3 rfl).trans km331_1_3
          have km334_70_823 : m334 70 823 = f333 := (gm334 70 823 rfl).trans ef333
          show zW E (d) 0 865 [(6, 0), (2, 0), (2, 69), (0, i2)] [(1, r335)] m334 Q
          have hkz336_0 := zk_fr hv0lp18_4 gm331
          have hkz336_1 := zk_fr hkz336_0 gm334
          have hqz337 := zq_bridges hIm3 hv0lp18_4 gm331 ef326 ef327 ef328 ef329 po0_r332 po1_r332 ef333 po0_r335 po1_r335
          have hfz338_0 := zfr_fr hv1lp18_4 gm331
          have hfz338_1 := zfr_fr hfz338_0 gm334
          refine zw_116 zr_0_865 rfl ?_
          refine zw_42 zr_0_866 ?_
          refine zw_15 (c := 6) (L' := [(6, 0), (2, 0), (2, 69), (0, (i2 + 6))]) zr_0_1238 rfl (by decide) (by omega) rfl ?_
          refine zw_42 zr_0_1241 ?_
          exact zw_less (L := [(6, 0), (2, 0), (2, 69), (0, (i2 + 6))]) ⟨Or.inr rfl, Or.inr rfl, Or.inr rfl, Or.inr rfl, trivial⟩ (ihlp18_4 ((i2 + 6)) m334 hIm334 hFm334   (by omega) (by omega) (by assumption) (by assumption) (by omega))
        by_cases h341 : x9 = 21
        · refine zw_111 (t := 869) zr_0_33 (by rw [h341]; rfl) ?_
          refine zw_7 zr_0_869 rfl ?_
          refine zw_7s zr_0_870 rfl ?_
          refine zw_3 zr_0_871 rfl ?_
          refine zw_push zr_0_872 ?_
          refine zw_16 zr_0_873 (by omega) ?_
          refine zw_100 zr_0_874 rfl (by omega) (by omega) ?_
          intro x342 ex342 hx342a hx342b
          refine zw_7s zr_0_875 rfl ?_
          refine zw_3 zr_0_876 rfl ?_
          refine zw_push zr_0_877 ?_
          refine zw_16 zr_0_878 (by omega) ?_
          refine zw_100 zr_0_879 rfl (by omega) (by omega) ?_
          intro x343 ex343 hx343a hx343b
          refine zw_7s zr_0_880 rfl ?_
          refine zw_3 zr_0_881 rfl ?_
          refine zw_push zr_0_882 ?_
          refine zw_16 zr_0_883 (by omega) ?_
          refine zw_100 zr_0_884 rfl (by omega) (by omega) ?_
          intro x344 ex344 hx344a hx344b
          obtain ⟨f345, ef345⟩ : ∃ v, m3 1 0 = v := ⟨_, rfl⟩
          have bf345 := ib_1_0 hIm3
          rw [ef345] at bf345
          obtain ⟨f346, ef346⟩ : ∃ v, m3 1 1 = v := ⟨_, rfl⟩
          have bf346 := ib_1_1 hIm3
          rw [ef346] at bf346
          obtain ⟨f347, ef347⟩ : ∃ v, m3 1 2 = v := ⟨_, rfl⟩
          have bf347 := ib_1_2 hIm3
          rw [ef347] at bf347
          obtain ⟨f348, ef348⟩ : ∃ v, m3 42 0 = v := ⟨_, rfl⟩
          have bf348 := hIm3.fl (c := 42) (k := 0) rfl
          rw [ef348] at bf348
          obtain ⟨f349, ef349⟩ : ∃ v, m3 42 1 = v := ⟨_, rfl⟩
          have bf349 := hIm3.fl (c := 42) (k := 1) rfl
          rw [ef349] at bf349
          refine zw_C zr_0_885 (Or.inl rfl) zm_123 rfl rfl ⟨Nat.le_of_ble_eq_true rfl, Nat.le_of_ble_eq_true rfl, Nat.le_of_ble_eq_true rfl, rfl, by decide⟩ (by omega) (th_123 (d := d - 1) (by omega) hIm3 (a0 := x342) (a1 := x343) (a2 := x344) (g0 := f345) (g1 := f346) (g2 := f347) (g3 := f348) (g4 := f349)  (F5 := m3 5) (F6 := m3 6) (F7 := m3 7) (F8 := m3 8) (F10 := m3 10) (F11 := m3 11) (F44 := m3 44) (F48 := m3 48) (F50 := m3 50) (F51 := m3 51) (F9 := m3 9) ef345 ef346 ef347 ef348 ef349 rfl rfl rfl rfl rfl rfl rfl rfl rfl rfl rfl (by omega) (by omega) (by omega) (qK_so hv0lp18_4 ef346 (by omega)) (qK_pl hv0lp18_4 ef346 ef345)) ?_
          rintro _ m352 ⟨r353, rfl, hr353a, hr353b, hIm352, gm352, po0_r353, po1_r353⟩
          have hFm352 : zFr W_0 m0 m352 := hFm3.trans gm352 rfl
          have km352_1_0 : m352 1 0 = f345 := (gm352 1 0 rfl).trans ef345
          have km352_1_1 : m352 1 1 = f346 := (gm352 1 1 rfl).trans ef346
          have km352_1_2 : m352 1 2 = f347 := (gm352 1 2 rfl).trans ef347
          show zW E (d) 0 888 [(6, 0), (2, 0), (2, 69), (0, i2)] [(0, r353)] m352 Q
          refine zw_115 zr_0_888 rfl ?_
          refine zw_7 zr_0_889 rfl ?_
          refine zw_7s zr_0_890 rfl ?_
          refine zw_3 zr_0_891 rfl ?_
          refine zw_push zr_0_892 ?_
          refine zw_16 zr_0_893 (by omega) ?_
          refine zw_100k zr_0_894 rfl (by omega) (by omega) ex342.symm ?_
          refine zw_7s zr_0_895 rfl ?_
          refine zw_3 zr_0_896 rfl ?_
          refine zw_push zr_0_897 ?_
          refine zw_16 zr_0_898 (by omega) ?_
          refine zw_100k zr_0_899 rfl (by omega) (by omega) ex343.symm ?_
          refine zw_7s zr_0_900 rfl ?_
          refine zw_3 zr_0_901 rfl ?_
          refine zw_push zr_0_902 ?_
          refine zw_16 zr_0_903 (by omega) ?_
          refine zw_100k zr_0_904 rfl (by omega) (by omega) ex344.symm ?_
          obtain ⟨f354, ef354⟩ : ∃ v, m352 70 822 = v := ⟨_, rfl⟩
          have bf354 : 0 ≤ m352 70 822 ∧ m352 70 822 ≤ 10 := ib_70_players hIm352 (by omega)
          rw [ef354] at bf354
          obtain ⟨f355, ef355⟩ : ∃ v, m352 70 823 = v := ⟨_, rfl⟩
          have bf355 : 0 ≤ m352 70 823 ∧ m352 70 823 ≤ 60 := ib_70_meetings hIm352 (by omega)
          rw [ef355] at bf355
          obtain ⟨f356, ef356⟩ : ∃ v, m352 69 3 = v := ⟨_, rfl⟩
          have bf356 := hIm352.fl (c := 69) (k := 3) rfl
          rw [ef356] at bf356
          obtain ⟨f357, ef357⟩ : ∃ v, m352 69 4 = v := ⟨_, rfl⟩
          have bf357 := hIm352.fl (c := 69) (k := 4) rfl
          rw [ef357] at bf357
          refine zw_C zr_0_905 (Or.inl rfl) zm_196 rfl rfl ⟨Nat.le_of_ble_eq_true rfl, Nat.le_of_ble_eq_true rfl, Nat.le_of_ble_eq_true rfl, rfl, by decide⟩ (by omega) (th_196 (d := d - 1) (by omega) hIm352 (a0 := x342) (a1 := x343) (a2 := x344) (g0 := f354) (g1 := f355) (g2 := f356) (g3 := f357)  (F70 := m352 70) ef354 ef355 ef356 ef357 rfl (by omega) (by omega) (by omega) (qK_sr (zk_fr hv0lp18_4 gm352) ef355 (by omega))) ?_
          rintro _ m359 ⟨r360, rfl, hr360a, hr360b, hIm359, gm359, po0_r360, po1_r360⟩
          have hFm359 : zFr W_0 m0 m359 := hFm352.trans gm359 rfl
          have km359_1_0 : m359 1 0 = f345 := (gm359 1 0 rfl).trans km352_1_0
          have km359_1_1 : m359 1 1 = f346 := (gm359 1 1 rfl).trans km352_1_1
          have km359_1_2 : m359 1 2 = f347 := (gm359 1 2 rfl).trans km352_1_2
          have km359_70_822 : m359 70 822 = f354 := (gm359 70 822 rfl).trans ef354
          have km359_70_823 : m359 70 823 = f355 := (gm359 70 823 rfl).trans ef355
          show zW E (d) 0 908 [(6, 0), (2, 0), (2, 69), (0, i2)] [(0, r360)] m359 Q
          have hkz361_0 := zk_fr hv0lp18_4 gm352
          have hkz361_1 := zk_fr hkz361_0 gm359
          have hqz362 := zq_best hIm3 hv0lp18_4 gm352 ef345 ef346 ef347 ef348 ef349 po0_r353 po1_r353 ef354 ef355 ef356 ef357 po0_r360 po1_r360
          have hfz363 := zfr_2 (zf_best hIm3 hv0lp18_4 hv1lp18_4 gm352 ef345 ef346 ef347 ef348 ef349 po0_r353 po1_r353 ef354 ef355 ef356 ef357 po0_r360 po1_r360) gm359
          clear po0_r353 po0_r360
          refine zw_115 zr_0_908 rfl ?_
          refine zw_42 zr_0_909 ?_
          refine zw_15 (c := 6) (L' := [(6, 0), (2, 0), (2, 69), (0, (i2 + 6))]) zr_0_1238 rfl (by decide) (by omega) rfl ?_
          refine zw_42 zr_0_1241 ?_
          exact zw_less (L := [(6, 0), (2, 0), (2, 69), (0, (i2 + 6))]) ⟨Or.inr rfl, Or.inr rfl, Or.inr rfl, Or.inr rfl, trivial⟩ (ihlp18_4 ((i2 + 6)) m359 hIm359 hFm359   (by omega) (by omega) (by assumption) (by assumption) (by omega))
        by_cases h366 : x9 = 22
        · refine zw_111 (t := 912) zr_0_33 (by rw [h366]; rfl) ?_
          refine zw_7 zr_0_912 rfl ?_
          obtain ⟨f367, ef367⟩ : ∃ v, m3 1 0 = v := ⟨_, rfl⟩
          have bf367 := ib_1_0 hIm3
          rw [ef367] at bf367
          obtain ⟨f368, ef368⟩ : ∃ v, m3 1 1 = v := ⟨_, rfl⟩
          have bf368 := ib_1_1 hIm3
          rw [ef368] at bf368
          obtain ⟨f369, ef369⟩ : ∃ v, m3 1 2 = v := ⟨_, rfl⟩
          have bf369 := ib_1_2 hIm3
          rw [ef369] at bf369
          refine zw_C zr_0_913 (Or.inl rfl) zm_124 rfl rfl ⟨Nat.le_of_ble_eq_true rfl, Nat.le_of_ble_eq_true rfl, Nat.le_of_ble_eq_true rfl, rfl, by decide⟩ (by omega) (th_124 (d := d - 1) (by omega) hIm3  (g0 := f367) (g1 := f368) (g2 := f369)  (F6 := m3 6) (F7 := m3 7) (F8 := m3 8) ef367 ef368 ef369 rfl rfl rfl  ) ?_
          rintro _ m370 ⟨r371, rfl, hr371a, hr371b, hIm370, gm370, po0_r371⟩
          have hFm370 : zFr W_0 m0 m370 := hFm3.trans gm370 rfl
          have km370_1_0 : m370 1 0 = f367 := (gm370 1 0 rfl).trans ef367
          have km370_1_1 : m370 1 1 = f368 := (gm370 1 1 rfl).trans ef368
          have km370_1_2 : m370 1 2 = f369 := (gm370 1 2 rfl).trans ef369
          show zW E (d) 0 916 [(6, 0), (2, 0), (2, 69), (0, i2)] [(0, r371)] m370 Q
          refine zw_115 zr_0_916 rfl ?_
          refine zw_7 zr_0_917 rfl ?_
          obtain ⟨f372, ef372⟩ : ∃ v, m370 70 822 = v := ⟨_, rfl⟩
          have bf372 : 0 ≤ m370 70 822 ∧ m370 70 822 ≤ 10 := ib_70_players hIm370 (by omega)
          rw [ef372] at bf372
          refine zw_C zr_0_918 (Or.inl rfl) zm_198 rfl rfl ⟨Nat.le_of_ble_eq_true rfl, Nat.le_of_ble_eq_true rfl, Nat.le_of_ble_eq_true rfl, rfl, by decide⟩ (by omega) (th_198 (d := d - 1) (by omega) hIm370  (g0 := f372)  (F70 := m370 70) ef372 rfl  ) ?_
          rintro _ _ ⟨r373, rfl, hr373a, hr373b, rfl, po0_r373⟩
          show zW E (d) 0 921 [(6, 0), (2, 0), (2, 69), (0, i2)] [(0, r373)] m370 Q
          have hkz374_0 := zk_fr hv0lp18_4 gm370
          have hqz375 := zq_rounds hIm3 hv0lp18_4 gm370 ef367 ef368 ef369 po0_r371 ef372 po0_r373
          have hfz376_0 := zfr_fr hv1lp18_4 gm370
          clear po0_r371
          refine zw_115 zr_0_921 rfl ?_
          refine zw_42 zr_0_922 ?_
          refine zw_15 (c := 6) (L' := [(6, 0), (2, 0), (2, 69), (0, (i2 + 6))]) zr_0_1238 rfl (by decide) (by omega) rfl ?_
          refine zw_42 zr_0_1241 ?_
          exact zw_less (L := [(6, 0), (2, 0), (2, 69), (0, (i2 + 6))]) ⟨Or.inr rfl, Or.inr rfl, Or.inr rfl, Or.inr rfl, trivial⟩ (ihlp18_4 ((i2 + 6)) m370 hIm370 hFm370   (by omega) (by omega) (by assumption) (by assumption) (by omega))
        by_cases h379 : x9 = 23
        · refine zw_111 (t := 925) zr_0_33 (by rw [h379]; rfl) ?_
          refine zw_7 zr_0_925 rfl ?_
          refine zw_7s zr_0_926 rfl ?_
          refine zw_3 zr_0_927 rfl ?_
          refine zw_push zr_0_928 ?_
          refine zw_16 zr_0_929 (by omega) ?_
          refine zw_100 zr_0_930 rfl (by omega) (by omega) ?_
          intro x380 ex380 hx380a hx380b
          refine zw_C zr_0_931 (Or.inl rfl) zm_125 rfl rfl ⟨Nat.le_of_ble_eq_true rfl, Nat.le_of_ble_eq_true rfl, Nat.le_of_ble_eq_true rfl, rfl, by decide⟩ (by omega) (th_125 (d := d - 1) (by omega) hIm3 (a0 := x380)      (by omega) ) ?_
          rintro _ m381 ⟨r382, rfl, hr382a, hr382b, hIm381, gm381⟩
          have hFm381 : zFr W_0 m0 m381 := hFm3.trans gm381 rfl
          show zW E (d) 0 934 [(6, 0), (2, 0), (2, 69), (0, i2)] [(0, r382)] m381 Q
          refine zw_115 zr_0_934 rfl ?_
          refine zw_7 zr_0_935 rfl ?_
          refine zw_7s zr_0_936 rfl ?_
          refine zw_3 zr_0_937 rfl ?_
          refine zw_push zr_0_938 ?_
          refine zw_16 zr_0_939 (by omega) ?_
          refine zw_100k zr_0_940 rfl (by omega) (by omega) ex380.symm ?_
          refine zw_C zr_0_941 (Or.inl rfl) zm_199 rfl rfl ⟨Nat.le_of_ble_eq_true rfl, Nat.le_of_ble_eq_true rfl, Nat.le_of_ble_eq_true rfl, rfl, by decide⟩ (by omega) (th_199 (d := d - 1) (by omega) hIm381 (a0 := x380)      (by omega) ) ?_
          rintro _ m383 ⟨r384, rfl, hr384a, hr384b, hIm383, gm383⟩
          have hFm383 : zFr W_0 m0 m383 := hFm381.trans gm383 rfl
          show zW E (d) 0 944 [(6, 0), (2, 0), (2, 69), (0, i2)] [(0, r384)] m383 Q
          have hkz385_0 := zk_fr hv0lp18_4 gm381
          have hkz385_1 := zk_fr hkz385_0 gm383
          have hfz386_0 := zfr_fr hv1lp18_4 gm381
          have hfz386_1 := zfr_fr hfz386_0 gm383
          refine zw_115 zr_0_944 rfl ?_
          refine zw_42 zr_0_945 ?_
          refine zw_15 (c := 6) (L' := [(6, 0), (2, 0), (2, 69), (0, (i2 + 6))]) zr_0_1238 rfl (by decide) (by omega) rfl ?_
          refine zw_42 zr_0_1241 ?_
          exact zw_less (L := [(6, 0), (2, 0), (2, 69), (0, (i2 + 6))]) ⟨Or.inr rfl, Or.inr rfl, Or.inr rfl, Or.inr rfl, trivial⟩ (ihlp18_4 ((i2 + 6)) m383 hIm383 hFm383   (by omega) (by omega) (by assumption) (by assumption) (by omega))
        by_cases h389 : x9 = 24
        · refine zw_111 (t := 948) zr_0_33 (by rw [h389]; rfl) ?_
          refine zw_7 zr_0_948 rfl ?_
          refine zw_7s zr_0_949 rfl ?_
          refine zw_3 zr_0_950 rfl ?_
          refine zw_push zr_0_951 ?_
          refine zw_16 zr_0_952 (by omega) ?_
          refine zw_100 zr_0_953 rfl (by omega) (by omega) ?_
          intro x390 ex390 hx390a hx390b
          refine zw_7s zr_0_954 rfl ?_
          refine zw_3 zr_0_955 rfl ?_
          refine zw_push zr_0_956 ?_
          refine zw_16 zr_0_957 (by omega) ?_
          refine zw_100 zr_0_958 rfl (by omega) (by omega) ?_
          intro x391 ex391 hx391a hx391b
          refine zw_7s zr_0_959 rfl ?_
          refine zw_3 zr_0_960 rfl ?_
          refine zw_push zr_0_961 ?_
          refine zw_16 zr_0_962 (by omega) ?_
          refine zw_100 zr_0_963 rfl (by omega) (by omega) ?_
          intro x392 ex392 hx392a hx392b
          refine zw_7s zr_0_964 rfl ?_
          refine zw_3 zr_0_965 rfl ?_
          refine zw_push zr_0_966 ?_
          refine zw_16 zr_0_967 (by omega) ?_
          refine zw_100 zr_0_968 rfl (by omega) (by omega) ?_
          intro x393 ex393 hx393a hx393b
          obtain ⟨f394, ef394⟩ : ∃ v, m3 1 0 = v := ⟨_, rfl⟩
          have bf394 := ib_1_0 hIm3
          rw [ef394] at bf394
          obtain ⟨f395, ef395⟩ : ∃ v, m3 42 0 = v := ⟨_, rfl⟩
          have bf395 := hIm3.fl (c := 42) (k := 0) rfl
          rw [ef395] at bf395
          obtain ⟨f396, ef396⟩ : ∃ v, m3 42 1 = v := ⟨_, rfl⟩
          have bf396 := hIm3.fl (c := 42) (k := 1) rfl
          rw [ef396] at bf396
          refine zw_C zr_0_969 (Or.inl rfl) zm_126 rfl rfl ⟨Nat.le_of_ble_eq_true rfl, Nat.le_of_ble_eq_true rfl, Nat.le_of_ble_eq_true rfl, rfl, by decide⟩ (by omega) (th_126 (d := d - 1) (by omega) hIm3 (a0 := x390) (a1 := x391) (a2 := x392) (a3 := x393) (g0 := f394) (g1 := f395) (g2 := f396)  (F6 := m3 6) (F7 := m3 7) (F8 := m3 8) ef394 ef395 ef396 rfl rfl rfl (by omega) (by omega) (by omega) (by omega) ) ?_
          rintro _ m397 ⟨r398, rfl, hr398a, hr398b, hIm397, gm397, po0_r398, po1_r398⟩
          have hFm397 : zFr W_0 m0 m397 := hFm3.trans gm397 rfl
          have km397_1_0 : m397 1 0 = f394 := (gm397 1 0 rfl).trans ef394
          show zW E (d) 0 972 [(6, 0), (2, 0), (2, 69), (0, i2)] [(0, r398)] m397 Q
          refine zw_115 zr_0_972 rfl ?_
          refine zw_7 zr_0_973 rfl ?_
          refine zw_7s zr_0_974 rfl ?_
          refine zw_3 zr_0_975 rfl ?_
          refine zw_push zr_0_976 ?_
          refine zw_16 zr_0_977 (by omega) ?_
          refine zw_100k zr_0_978 rfl (by omega) (by omega) ex390.symm ?_
          refine zw_7s zr_0_979 rfl ?_
          refine zw_3 zr_0_980 rfl ?_
          refine zw_push zr_0_981 ?_
          refine zw_16 zr_0_982 (by omega) ?_
          refine zw_100k zr_0_983 rfl (by omega) (by omega) ex391.symm ?_
          refine zw_7s zr_0_984 rfl ?_
          refine zw_3 zr_0_985 rfl ?_
          refine zw_push zr_0_986 ?_
          refine zw_16 zr_0_987 (by omega) ?_
          refine zw_100k zr_0_988 rfl (by omega) (by omega) ex392.symm ?_
          refine zw_7s zr_0_989 rfl ?_
          refine zw_3 zr_0_990 rfl ?_
          refine zw_push zr_0_991 ?_
          refine zw_16 zr_0_992 (by omega) ?_
          refine zw_100k zr_0_993 rfl (by omega) (by omega) ex393.symm ?_
          obtain ⟨f399, ef399⟩ : ∃ v, m397 70 822 = v := ⟨_, rfl⟩
          have bf399 : 0 ≤ m397 70 822 ∧ m397 70 822 ≤ 10 := ib_70_players hIm397 (by omega)
          rw [ef399] at bf399
          obtain ⟨f400, ef400⟩ : ∃ v, m397 69 3 = v := ⟨_, rfl⟩
          have bf400 := hIm397.fl (c := 69) (k := 3) rfl
          rw [ef400] at bf400
          obtain ⟨f401, ef401⟩ : ∃ v, m397 69 4 = v := ⟨_, rfl⟩
          have bf401 := hIm397.fl (c := 69) (k := 4) rfl
          rw [ef401] at bf401
          refine zw_C zr_0_994 (Or.inl rfl) zm_202 rfl rfl ⟨Nat.le_of_ble_eq_true rfl, Nat.le_of_ble_eq_true rfl, Nat.le_of_ble_eq_true rfl, rfl, by decide⟩ (by omega) (th_202 (d := d - 1) (by omega) hIm397 (a0 := x390) (a1 := x391) (a2 := x392) (a3 := x393) (g0 := f399) (g1 := f400) (g2 := f401)  (F70 := m397 70) ef399 ef400 ef401 rfl (by omega) (by omega) (by omega) (by omega) ) ?_
          rintro _ m402 ⟨r403, rfl, hr403a, hr403b, hIm402, gm402, po0_r403, po1_r403⟩
          have hFm402 : zFr W_0 m0 m402 := hFm397.trans gm402 rfl
          have km402_1_0 : m402 1 0 = f394 := (gm402 1 0 rfl).trans km397_1_0
          have km402_70_822 : m402 70 822 = f399 := (gm402 70 822 rfl).trans ef399
          show zW E (d) 0 997 [(6, 0), (2, 0), (2, 69), (0, i2)] [(0, r403)] m402 Q
          have hkz404_0 := zk_fr hv0lp18_4 gm397
          have hkz404_1 := zk_fr hkz404_0 gm402
          have hqz405 := zq_even hIm3 hv0lp18_4 gm397 ef394 ef395 ef396 po0_r398 po1_r398 ef399 ef400 ef401 po0_r403 po1_r403
          have hfz406 := zfr_2 (zf_even hIm3 hv0lp18_4 hv1lp18_4 gm397 ef394 ef395 ef396 po0_r398 po1_r398 ef399 ef400 ef401 po0_r403 po1_r403) gm402
          refine zw_115 zr_0_997 rfl ?_
          refine zw_42 zr_0_998 ?_
          refine zw_15 (c := 6) (L' := [(6, 0), (2, 0), (2, 69), (0, (i2 + 6))]) zr_0_1238 rfl (by decide) (by omega) rfl ?_
          refine zw_42 zr_0_1241 ?_
          exact zw_less (L := [(6, 0), (2, 0), (2, 69), (0, (i2 + 6))]) ⟨Or.inr rfl, Or.inr rfl, Or.inr rfl, Or.inr rfl, trivial⟩ (ihlp18_4 ((i2 + 6)) m402 hIm402 hFm402   (by omega) (by omega) (by assumption) (by assumption) (by omega))
        by_cases h409 : x9 = 25
        · refine zw_111 (t := 1001) zr_0_33 (by rw [h409]; rfl) ?_
          refine zw_7 zr_0_1001 rfl ?_
          refine zw_C zr_0_1002 (Or.inl rfl) zm_127 rfl rfl ⟨Nat.le_of_ble_eq_true rfl, Nat.le_of_ble_eq_true rfl, Nat.le_of_ble_eq_true rfl, rfl, by decide⟩ (by omega) (th_127 (d := d - 1) (by omega) hIm3        ) ?_
          rintro _ _ ⟨r410, rfl, hr410a, hr410b, rfl⟩
          show zW E (d) 0 1005 [(6, 0), (2, 0), (2, 69), (0, i2)] [(0, r410)] m3 Q
          refine zw_115 zr_0_1005 rfl ?_
          refine zw_7 zr_0_1006 rfl ?_
          refine zw_C zr_0_1007 (Or.inl rfl) zm_203 rfl rfl ⟨Nat.le_of_ble_eq_true rfl, Nat.le_of_ble_eq_true rfl, Nat.le_of_ble_eq_true rfl, rfl, by decide⟩ (by omega) (th_203 (d := d - 1) (by omega) hIm3        ) ?_
          rintro _ _ ⟨r411, rfl, hr411a, hr411b, rfl⟩
          show zW E (d) 0 1010 [(6, 0), (2, 0), (2, 69), (0, i2)] [(0, r411)] m3 Q
          refine zw_115 zr_0_1010 rfl ?_
          refine zw_42 zr_0_1011 ?_
          refine zw_15 (c := 6) (L' := [(6, 0), (2, 0), (2, 69), (0, (i2 + 6))]) zr_0_1238 rfl (by decide) (by omega) rfl ?_
          refine zw_42 zr_0_1241 ?_
          exact zw_less (L := [(6, 0), (2, 0), (2, 69), (0, (i2 + 6))]) ⟨Or.inr rfl, Or.inr rfl, Or.inr rfl, Or.inr rfl, trivial⟩ (ihlp18_4 ((i2 + 6)) m3 hIm3 hFm3   (by omega) (by omega) (by assumption) (by assumption) (by omega))
        by_cases h416 : x9 = 26
        · refine zw_111 (t := 1014) zr_0_33 (by rw [h416]; rfl) ?_
          refine zw_7 zr_0_1014 rfl ?_
          refine zw_7s zr_0_1015 rfl ?_
          refine zw_3 zr_0_1016 rfl ?_
          refine zw_push zr_0_1017 ?_
          refine zw_16 zr_0_1018 (by omega) ?_
          refine zw_100 zr_0_1019 rfl (by omega) (by omega) ?_
          intro x417 ex417 hx417a hx417b
          refine zw_7s zr_0_1020 rfl ?_
          refine zw_3 zr_0_1021 rfl ?_
          refine zw_push zr_0_1022 ?_
          refine zw_16 zr_0_1023 (by omega) ?_
          refine zw_100 zr_0_1024 rfl (by omega) (by omega) ?_
          intro x418 ex418 hx418a hx418b
          refine zw_7s zr_0_1025 rfl ?_
          refine zw_3 zr_0_1026 rfl ?_
          refine zw_push zr_0_1027 ?_
          refine zw_16 zr_0_1028 (by omega) ?_
          refine zw_100 zr_0_1029 rfl (by omega) (by omega) ?_
          intro x419 ex419 hx419a hx419b
          refine zw_7s zr_0_1030 rfl ?_
          refine zw_3 zr_0_1031 rfl ?_
          refine zw_push zr_0_1032 ?_
          refine zw_16 zr_0_1033 (by omega) ?_
          refine zw_100 zr_0_1034 rfl (by omega) (by omega) ?_
          intro x420 ex420 hx420a hx420b
          obtain ⟨f421, ef421⟩ : ∃ v, m3 1 0 = v := ⟨_, rfl⟩
          have bf421 := ib_1_0 hIm3
          rw [ef421] at bf421
          refine zw_C zr_0_1035 (Or.inl rfl) zm_129 rfl rfl ⟨Nat.le_of_ble_eq_true rfl, Nat.le_of_ble_eq_true rfl, Nat.le_of_ble_eq_true rfl, rfl, by decide⟩ (by omega) (th_129 (d := d - 1) (by omega) hIm3 (a0 := x417) (a1 := x418) (a2 := x419) (a3 := x420) (g0 := f421)  (F3 := m3 3) (F4 := m3 4) ef421 rfl rfl (by omega) (by omega) (by omega) (by omega) ) ?_
          rintro _ m422 ⟨r423, rfl, hr423a, hr423b, hIm422, gm422, po0_r423, po1_r423, po2_r423⟩
          have hFm422 : zFr W_0 m0 m422 := hFm3.trans gm422 rfl
          have km422_1_0 : m422 1 0 = f421 := (gm422 1 0 rfl).trans ef421
          show zW E (d) 0 1038 [(6, 0), (2, 0), (2, 69), (0, i2)] [(0, r423)] m422 Q
          refine zw_115 zr_0_1038 rfl ?_
          refine zw_7 zr_0_1039 rfl ?_
          refine zw_7s zr_0_1040 rfl ?_
          refine zw_3 zr_0_1041 rfl ?_
          refine zw_push zr_0_1042 ?_
          refine zw_16 zr_0_1043 (by omega) ?_
          refine zw_100k zr_0_1044 rfl (by omega) (by omega) ex417.symm ?_
          refine zw_7s zr_0_1045 rfl ?_
          refine zw_3 zr_0_1046 rfl ?_
          refine zw_push zr_0_1047 ?_
          refine zw_16 zr_0_1048 (by omega) ?_
          refine zw_100k zr_0_1049 rfl (by omega) (by omega) ex418.symm ?_
          refine zw_7s zr_0_1050 rfl ?_
          refine zw_3 zr_0_1051 rfl ?_
          refine zw_push zr_0_1052 ?_
          refine zw_16 zr_0_1053 (by omega) ?_
          refine zw_100k zr_0_1054 rfl (by omega) (by omega) ex419.symm ?_
          refine zw_7s zr_0_1055 rfl ?_
          refine zw_3 zr_0_1056 rfl ?_
          refine zw_push zr_0_1057 ?_
          refine zw_16 zr_0_1058 (by omega) ?_
          refine zw_100k zr_0_1059 rfl (by omega) (by omega) ex420.symm ?_
          obtain ⟨f424, ef424⟩ : ∃ v, m422 70 822 = v := ⟨_, rfl⟩
          have bf424 : 0 ≤ m422 70 822 ∧ m422 70 822 ≤ 10 := ib_70_players hIm422 (by omega)
          rw [ef424] at bf424
          refine zw_C zr_0_1060 (Or.inl rfl) zm_204 rfl rfl ⟨Nat.le_of_ble_eq_true rfl, Nat.le_of_ble_eq_true rfl, Nat.le_of_ble_eq_true rfl, rfl, by decide⟩ (by omega) (th_204 (d := d - 1) (by omega) hIm422 (a0 := x417) (a1 := x418) (a2 := x419) (a3 := x420) (g0 := f424)  (F70 := m422 70) ef424 rfl (by omega) (by omega) (by omega) (by omega) ) ?_
          rintro _ m425 ⟨r426, rfl, hr426a, hr426b, hIm425, gm425, po0_r426, po1_r426⟩
          have hFm425 : zFr W_0 m0 m425 := hFm422.trans gm425 rfl
          have km425_1_0 : m425 1 0 = f421 := (gm425 1 0 rfl).trans km422_1_0
          show zW E (d) 0 1063 [(6, 0), (2, 0), (2, 69), (0, i2)] [(0, r426)] m425 Q
          obtain ⟨hkz427, hrz427⟩ := zk_moves hIm3 hv0lp18_4 gm422 ef421 po0_r423 po1_r423 po2_r423 gm425 ef424 po0_r426 po1_r426
          have hfz428_0 := zfr_fr hv1lp18_4 gm422
          have hfz428_1 := zfr_fr hfz428_0 gm425
          refine zw_115 zr_0_1063 rfl ?_
          refine zw_42 zr_0_1064 ?_
          refine zw_15 (c := 6) (L' := [(6, 0), (2, 0), (2, 69), (0, (i2 + 6))]) zr_0_1238 rfl (by decide) (by omega) rfl ?_
          refine zw_42 zr_0_1241 ?_
          exact zw_less (L := [(6, 0), (2, 0), (2, 69), (0, (i2 + 6))]) ⟨Or.inr rfl, Or.inr rfl, Or.inr rfl, Or.inr rfl, trivial⟩ (ihlp18_4 ((i2 + 6)) m425 hIm425 hFm425   (by omega) (by omega) (by assumption) (by assumption) (by omega))
        by_cases h431 : x9 = 27
        · refine zw_111 (t := 1067) zr_0_33 (by rw [h431]; rfl) ?_
          refine zw_7 zr_0_1067 rfl ?_
          refine zw_7s zr_0_1068 rfl ?_
          refine zw_3 zr_0_1069 rfl ?_
          refine zw_push zr_0_1070 ?_
          refine zw_16 zr_0_1071 (by omega) ?_
          refine zw_100 zr_0_1072 rfl (by omega) (by omega) ?_
          intro x432 ex432 hx432a hx432b
          refine zw_7s zr_0_1073 rfl ?_
          refine zw_3 zr_0_1074 rfl ?_
          refine zw_push zr_0_1075 ?_
          refine zw_16 zr_0_1076 (by omega) ?_
          refine zw_100 zr_0_1077 rfl (by omega) (by omega) ?_
          intro x433 ex433 hx433a hx433b
          refine zw_C zr_0_1078 (Or.inl rfl) zm_130 rfl rfl ⟨Nat.le_of_ble_eq_true rfl, Nat.le_of_ble_eq_true rfl, Nat.le_of_ble_eq_true rfl, rfl, by decide⟩ (by omega) (th_130 (d := d - 1) (by omega) hIm3 (a0 := x432) (a1 := x433)   (F13 := m3 13)  rfl (by omega) (by omega) ) ?_
          rintro _ m434 ⟨r435, rfl, hr435a, hr435b, hIm434, gm434, po0_r435, po1_r435⟩
          have hFm434 : zFr W_0 m0 m434 := hFm3.trans gm434 rfl
          show zW E (d) 0 1081 [(6, 0), (2, 0), (2, 69), (0, i2)] [(0, r435)] m434 Q
          refine zw_115 zr_0_1081 rfl ?_
          refine zw_7 zr_0_1082 rfl ?_
          refine zw_7s zr_0_1083 rfl ?_
          refine zw_3 zr_0_1084 rfl ?_
          refine zw_push zr_0_1085 ?_
          refine zw_16 zr_0_1086 (by omega) ?_
          refine zw_100k zr_0_1087 rfl (by omega) (by omega) ex432.symm ?_
          refine zw_7s zr_0_1088 rfl ?_
          refine zw_3 zr_0_1089 rfl ?_
          refine zw_push zr_0_1090 ?_
          refine zw_16 zr_0_1091 (by omega) ?_
          refine zw_100k zr_0_1092 rfl (by omega) (by omega) ex433.symm ?_
          refine zw_C zr_0_1093 (Or.inl rfl) zm_205 rfl rfl ⟨Nat.le_of_ble_eq_true rfl, Nat.le_of_ble_eq_true rfl, Nat.le_of_ble_eq_true rfl, rfl, by decide⟩ (by omega) (th_205 (d := d - 1) (by omega) hIm434 (a0 := x432) (a1 := x433)   (F70 := m434 70)  rfl (by omega) (by omega) ) ?_
          rintro _ m436 ⟨r437, rfl, hr437a, hr437b, hIm436, gm436, po0_r437, po1_r437⟩
          have hFm436 : zFr W_0 m0 m436 := hFm434.trans gm436 rfl
          show zW E (d) 0 1096 [(6, 0), (2, 0), (2, 69), (0, i2)] [(0, r437)] m436 Q
          obtain ⟨hkz438, hrz438⟩ := zk_weight hIm3 hv0lp18_4 gm434 po0_r435 po1_r435 gm436 po0_r437 po1_r437
          have hfz439_0 := zfr_fr hv1lp18_4 gm434
          have hfz439_1 := zfr_fr hfz439_0 gm436
          refine zw_115 zr_0_1096 rfl ?_
          refine zw_42 zr_0_1097 ?_
          refine zw_15 (c := 6) (L' := [(6, 0), (2, 0), (2, 69), (0, (i2 + 6))]) zr_0_1238 rfl (by decide) (by omega) rfl ?_
          refine zw_42 zr_0_1241 ?_
          exact zw_less (L := [(6, 0), (2, 0), (2, 69), (0, (i2 + 6))]) ⟨Or.inr rfl, Or.inr rfl, Or.inr rfl, Or.inr rfl, trivial⟩ (ihlp18_4 ((i2 + 6)) m436 hIm436 hFm436   (by omega) (by omega) (by assumption) (by assumption) (by omega))
        by_cases h442 : x9 = 28
        · refine zw_111 (t := 1100) zr_0_33 (by rw [h442]; rfl) ?_
          refine zw_7 zr_0_1100 rfl ?_
          refine zw_7s zr_0_1101 rfl ?_
          refine zw_3 zr_0_1102 rfl ?_
          refine zw_push zr_0_1103 ?_
          refine zw_16 zr_0_1104 (by omega) ?_
          refine zw_100 zr_0_1105 rfl (by omega) (by omega) ?_
          intro x443 ex443 hx443a hx443b
          refine zw_7s zr_0_1106 rfl ?_
          refine zw_3 zr_0_1107 rfl ?_
          refine zw_push zr_0_1108 ?_
          refine zw_16 zr_0_1109 (by omega) ?_
          refine zw_100 zr_0_1110 rfl (by omega) (by omega) ?_
          intro x444 ex444 hx444a hx444b
          obtain ⟨f445, ef445⟩ : ∃ v, m3 1 0 = v := ⟨_, rfl⟩
          have bf445 := ib_1_0 hIm3
          rw [ef445] at bf445
          obtain ⟨f446, ef446⟩ : ∃ v, m3 42 0 = v := ⟨_, rfl⟩
          have bf446 := hIm3.fl (c := 42) (k := 0) rfl
          rw [ef446] at bf446
          obtain ⟨f447, ef447⟩ : ∃ v, m3 42 1 = v := ⟨_, rfl⟩
          have bf447 := hIm3.fl (c := 42) (k := 1) rfl
          rw [ef447] at bf447
          refine zw_C zr_0_1111 (Or.inl rfl) zm_132 rfl rfl ⟨Nat.le_of_ble_eq_true rfl, Nat.le_of_ble_eq_true rfl, Nat.le_of_ble_eq_true rfl, rfl, by decide⟩ (by omega) (th_132 (d := d - 1) (by omega) hIm3 (a0 := x443) (a1 := x444) (g0 := f445) (g1 := f446) (g2 := f447)  (F3 := m3 3) (F4 := m3 4) (F13 := m3 13) ef445 ef446 ef447 rfl rfl rfl (by omega) (by omega) ) ?_
          rintro _ m448 ⟨r449, rfl, hr449a, hr449b, hIm448, gm448, po0_r449, po1_r449⟩
          have hFm448 : zFr W_0 m0 m448 := hFm3.trans gm448 rfl
          have km448_1_0 : m448 1 0 = f445 := (gm448 1 0 rfl).trans ef445
          show zW E (d) 0 1114 [(6, 0), (2, 0), (2, 69), (0, i2)] [(0, r449)] m448 Q
          refine zw_115 zr_0_1114 rfl ?_
          refine zw_7 zr_0_1115 rfl ?_
          refine zw_7s zr_0_1116 rfl ?_
          refine zw_3 zr_0_1117 rfl ?_
          refine zw_push zr_0_1118 ?_
          refine zw_16 zr_0_1119 (by omega) ?_
          refine zw_100k zr_0_1120 rfl (by omega) (by omega) ex443.symm ?_
          refine zw_7s zr_0_1121 rfl ?_
          refine zw_3 zr_0_1122 rfl ?_
          refine zw_push zr_0_1123 ?_
          refine zw_16 zr_0_1124 (by omega) ?_
          refine zw_100k zr_0_1125 rfl (by omega) (by omega) ex444.symm ?_
          obtain ⟨f450, ef450⟩ : ∃ v, m448 70 822 = v := ⟨_, rfl⟩
          have bf450 : 0 ≤ m448 70 822 ∧ m448 70 822 ≤ 10 := ib_70_players hIm448 (by omega)
          rw [ef450] at bf450
          obtain ⟨f451, ef451⟩ : ∃ v, m448 69 3 = v := ⟨_, rfl⟩
          have bf451 := hIm448.fl (c := 69) (k := 3) rfl
          rw [ef451] at bf451
          obtain ⟨f452, ef452⟩ : ∃ v, m448 69 4 = v := ⟨_, rfl⟩
          have bf452 := hIm448.fl (c := 69) (k := 4) rfl
          rw [ef452] at bf452
          refine zw_C zr_0_1126 (Or.inl rfl) zm_206 rfl rfl ⟨Nat.le_of_ble_eq_true rfl, Nat.le_of_ble_eq_true rfl, Nat.le_of_ble_eq_true rfl, rfl, by decide⟩ (by omega) (th_206 (d := d - 1) (by omega) hIm448 (a0 := x443) (a1 := x444) (g0 := f450) (g1 := f451) (g2 := f452)  (F70 := m448 70) ef450 ef451 ef452 rfl (by omega) (by omega) (qK_mv (zk_fr hv0lp18_4 gm448))) ?_
          rintro _ m454 ⟨r455, rfl, hr455a, hr455b, hIm454, gm454, po0_r455, po1_r455⟩
          have hFm454 : zFr W_0 m0 m454 := hFm448.trans gm454 rfl
          have km454_1_0 : m454 1 0 = f445 := (gm454 1 0 rfl).trans km448_1_0
          have km454_70_822 : m454 70 822 = f450 := (gm454 70 822 rfl).trans ef450
          show zW E (d) 0 1129 [(6, 0), (2, 0), (2, 69), (0, i2)] [(0, r455)] m454 Q
          have hkz456_0 := zk_fr hv0lp18_4 gm448
          have hkz456_1 := zk_fr hkz456_0 gm454
          have hqz457 := zq_share hIm3 hv0lp18_4 gm448 ef445 ef446 ef447 po0_r449 po1_r449 ef450 ef451 ef452 po0_r455 po1_r455
          have hfz458 := zfr_2 (zf_share hIm3 hv0lp18_4 hv1lp18_4 gm448 ef445 ef446 ef447 po0_r449 po1_r449 ef450 ef451 ef452 po0_r455 po1_r455) gm454
          refine zw_115 zr_0_1129 rfl ?_
          refine zw_42 zr_0_1130 ?_
          refine zw_15 (c := 6) (L' := [(6, 0), (2, 0), (2, 69), (0, (i2 + 6))]) zr_0_1238 rfl (by decide) (by omega) rfl ?_
          refine zw_42 zr_0_1241 ?_
          exact zw_less (L := [(6, 0), (2, 0), (2, 69), (0, (i2 + 6))]) ⟨Or.inr rfl, Or.inr rfl, Or.inr rfl, Or.inr rfl, trivial⟩ (ihlp18_4 ((i2 + 6)) m454 hIm454 hFm454   (by omega) (by omega) (by assumption) (by assumption) (by omega))
        by_cases h461 : x9 = 29
        · refine zw_111 (t := 1133) zr_0_33 (by rw [h461]; rfl) ?_
          refine zw_7 zr_0_1133 rfl ?_
          refine zw_7s zr_0_1134 rfl ?_
          refine zw_3 zr_0_1135 rfl ?_
          refine zw_push zr_0_1136 ?_
          refine zw_16 zr_0_1137 (by omega) ?_
          refine zw_100 zr_0_1138 rfl (by omega) (by omega) ?_
          intro x462 ex462 hx462a hx462b
          obtain ⟨f463, ef463⟩ : ∃ v, m3 42 0 = v := ⟨_, rfl⟩
          have bf463 := hIm3.fl (c := 42) (k := 0) rfl
          rw [ef463] at bf463
          obtain ⟨f464, ef464⟩ : ∃ v, m3 42 1 = v := ⟨_, rfl⟩
          have bf464 := hIm3.fl (c := 42) (k := 1) rfl
          rw [ef464] at bf464
          refine zw_C zr_0_1139 (Or.inl rfl) zm_133 rfl rfl ⟨Nat.le_of_ble_eq_true rfl, Nat.le_of_ble_eq_true rfl, Nat.le_of_ble_eq_true rfl, rfl, by decide⟩ (by omega) (th_133 (d := d - 1) (by omega) hIm3 (a0 := x462) (g0 := f463) (g1 := f464)   ef463 ef464  (by omega) ) ?_
          rintro _ _ ⟨r465, rfl, hr465a, hr465b, rfl, po0_r465⟩
          show zW E (d) 0 1142 [(6, 0), (2, 0), (2, 69), (0, i2)] [(1, r465)] m3 Q
          refine zw_116 zr_0_1142 rfl ?_
          refine zw_7 zr_0_1143 rfl ?_
          refine zw_7s zr_0_1144 rfl ?_
          refine zw_3 zr_0_1145 rfl ?_
          refine zw_push zr_0_1146 ?_
          refine zw_16 zr_0_1147 (by omega) ?_
          refine zw_100k zr_0_1148 rfl (by omega) (by omega) ex462.symm ?_
          obtain ⟨f466, ef466⟩ : ∃ v, m3 69 3 = v := ⟨_, rfl⟩
          have bf466 := hIm3.fl (c := 69) (k := 3) rfl
          rw [ef466] at bf466
          obtain ⟨f467, ef467⟩ : ∃ v, m3 69 4 = v := ⟨_, rfl⟩
          have bf467 := hIm3.fl (c := 69) (k := 4) rfl
          rw [ef467] at bf467
          refine zw_C zr_0_1149 (Or.inl rfl) zm_207 rfl rfl ⟨Nat.le_of_ble_eq_true rfl, Nat.le_of_ble_eq_true rfl, Nat.le_of_ble_eq_true rfl, rfl, by decide⟩ (by omega) (th_207 (d := d - 1) (by omega) hIm3 (a0 := x462) (g0 := f466) (g1 := f467)   ef466 ef467  (by omega) ) ?_
          rintro _ _ ⟨r468, rfl, hr468a, hr468b, rfl, po0_r468⟩
          show zW E (d) 0 1152 [(6, 0), (2, 0), (2, 69), (0, i2)] [(1, r468)] m3 Q
          have hqz470 := zf_part (m1 := m0) (m2 := m0) hv1lp18_4 ef463 ef464 po0_r465 ef466 ef467 po0_r468
          refine zw_116 zr_0_1152 rfl ?_
          refine zw_42 zr_0_1153 ?_
          refine zw_15 (c := 6) (L' := [(6, 0), (2, 0), (2, 69), (0, (i2 + 6))]) zr_0_1238 rfl (by decide) (by omega) rfl ?_
          refine zw_42 zr_0_1241 ?_
          exact zw_less (L := [(6, 0), (2, 0), (2, 69), (0, (i2 + 6))]) ⟨Or.inr rfl, Or.inr rfl, Or.inr rfl, Or.inr rfl, trivial⟩ (ihlp18_4 ((i2 + 6)) m3 hIm3 hFm3   (by omega) (by omega) (by assumption) (by assumption) (by omega))
        by_cases h473 : x9 = 30
        · refine zw_111 (t := 1156) zr_0_33 (by rw [h473]; rfl) ?_
          refine zw_7 zr_0_1156 rfl ?_
          refine zw_7s zr_0_1157 rfl ?_
          refine zw_3 zr_0_1158 rfl ?_
          refine zw_push zr_0_1159 ?_
          refine zw_16 zr_0_1160 (by omega) ?_
          refine zw_100 zr_0_1161 rfl (by omega) (by omega) ?_
          intro x474 ex474 hx474a hx474b
          refine zw_C zr_0_1162 (Or.inl rfl) zm_134 rfl rfl ⟨Nat.le_of_ble_eq_true rfl, Nat.le_of_ble_eq_true rfl, Nat.le_of_ble_eq_true rfl, rfl, by decide⟩ (by omega) (th_134 (d := d - 1) (by omega) hIm3 (a0 := x474)      (by omega) ) ?_
          rintro _ m475 ⟨r476, rfl, hr476a, hr476b, hIm475, gm475, po0_r476⟩
          have hFm475 : zFr W_0 m0 m475 := hFm3.trans gm475 rfl
          show zW E (d) 0 1165 [(6, 0), (2, 0), (2, 69), (0, i2)] [(0, r476)] m475 Q
          refine zw_115 zr_0_1165 rfl ?_
          refine zw_7 zr_0_1166 rfl ?_
          refine zw_7s zr_0_1167 rfl ?_
          refine zw_3 zr_0_1168 rfl ?_
          refine zw_push zr_0_1169 ?_
          refine zw_16 zr_0_1170 (by omega) ?_
          refine zw_100k zr_0_1171 rfl (by omega) (by omega) ex474.symm ?_
          refine zw_C zr_0_1172 (Or.inl rfl) zm_208 rfl rfl ⟨Nat.le_of_ble_eq_true rfl, Nat.le_of_ble_eq_true rfl, Nat.le_of_ble_eq_true rfl, rfl, by decide⟩ (by omega) (th_208 (d := d - 1) (by omega) hIm475 (a0 := x474)   (F70 := m475 70) (F71 := m475 71) (F72 := m475 72)  rfl rfl rfl (by omega) ) ?_
          rintro _ m477 ⟨r478, rfl, hr478a, hr478b, hIm477, gm477, po0_r478⟩
          have hFm477 : zFr W_0 m0 m477 := hFm475.trans gm477 rfl
          show zW E (d) 0 1175 [(6, 0), (2, 0), (2, 69), (0, i2)] [(0, r478)] m477 Q
          obtain ⟨hkz479, hrz479⟩ := zk_image hv0lp18_4 gm475 po0_r476 gm477 po0_r478
          have hfz480_0 := zfr_fr hv1lp18_4 gm475
          have hfz480_1 := zfr_fr hfz480_0 gm477
          refine zw_115 zr_0_1175 rfl ?_
          refine zw_42 zr_0_1176 ?_
          refine zw_15 (c := 6) (L' := [(6, 0), (2, 0), (2, 69), (0, (i2 + 6))]) zr_0_1238 rfl (by decide) (by omega) rfl ?_
          refine zw_42 zr_0_1241 ?_
          exact zw_less (L := [(6, 0), (2, 0), (2, 69), (0, (i2 + 6))]) ⟨Or.inr rfl, Or.inr rfl, Or.inr rfl, Or.inr rfl, trivial⟩ (ihlp18_4 ((i2 + 6)) m477 hIm477 hFm477   (by omega) (by omega) (by assumption) (by assumption) (by omega))
        by_cases h483 : x9 = 31
        · refine zw_111 (t := 1179) zr_0_33 (by rw [h483]; rfl) ?_
          refine zw_7 zr_0_1179 rfl ?_
          refine zw_7s zr_0_1180 rfl ?_
          refine zw_3 zr_0_1181 rfl ?_
          refine zw_push zr_0_1182 ?_
          refine zw_16 zr_0_1183 (by omega) ?_
          refine zw_100 zr_0_1184 rfl (by omega) (by omega) ?_
          intro x484 ex484 hx484a hx484b
          refine zw_C zr_0_1185 (Or.inl rfl) zm_135 rfl rfl ⟨Nat.le_of_ble_eq_true rfl, Nat.le_of_ble_eq_true rfl, Nat.le_of_ble_eq_true rfl, rfl, by decide⟩ (by omega) (th_135 (d := d - 1) (by omega) hIm3 (a0 := x484)   (F41 := m3 41)  rfl (by omega) ) ?_
          rintro _ m485 ⟨r486, rfl, hr486a, hr486b, hIm485, gm485, po0_r486⟩
          have hFm485 : zFr W_0 m0 m485 := hFm3.trans gm485 rfl
          show zW E (d) 0 1188 [(6, 0), (2, 0), (2, 69), (0, i2)] [(0, r486)] m485 Q
          refine zw_115 zr_0_1188 rfl ?_
          refine zw_7 zr_0_1189 rfl ?_
          refine zw_7s zr_0_1190 rfl ?_
          refine zw_3 zr_0_1191 rfl ?_
          refine zw_push zr_0_1192 ?_
          refine zw_16 zr_0_1193 (by omega) ?_
          refine zw_100k zr_0_1194 rfl (by omega) (by omega) ex484.symm ?_
          refine zw_C zr_0_1195 (Or.inl rfl) zm_209 rfl rfl ⟨Nat.le_of_ble_eq_true rfl, Nat.le_of_ble_eq_true rfl, Nat.le_of_ble_eq_true rfl, rfl, by decide⟩ (by omega) (th_209 (d := d - 1) (by omega) hIm485 (a0 := x484)   (F70 := m485 70) (F71 := m485 71) (F72 := m485 72)  rfl rfl rfl (by omega) ) ?_
          rintro _ m487 ⟨r488, rfl, hr488a, hr488b, hIm487, gm487, po0_r488⟩
          have hFm487 : zFr W_0 m0 m487 := hFm485.trans gm487 rfl
          show zW E (d) 0 1198 [(6, 0), (2, 0), (2, 69), (0, i2)] [(0, r488)] m487 Q
          obtain ⟨hkz489, hrz489⟩ := zk_from hv0lp18_4 gm485 po0_r486 gm487 po0_r488
          have hfz490_0 := zfr_fr hv1lp18_4 gm485
          have hfz490_1 := zfr_fr hfz490_0 gm487
          refine zw_115 zr_0_1198 rfl ?_
          refine zw_42 zr_0_1199 ?_
          refine zw_15 (c := 6) (L' := [(6, 0), (2, 0), (2, 69), (0, (i2 + 6))]) zr_0_1238 rfl (by decide) (by omega) rfl ?_
          refine zw_42 zr_0_1241 ?_
          exact zw_less (L := [(6, 0), (2, 0), (2, 69), (0, (i2 + 6))]) ⟨Or.inr rfl, Or.inr rfl, Or.inr rfl, Or.inr rfl, trivial⟩ (ihlp18_4 ((i2 + 6)) m487 hIm487 hFm487   (by omega) (by omega) (by assumption) (by assumption) (by omega))
        by_cases h493 : x9 = 32
        · refine zw_111 (t := 1202) zr_0_33 (by rw [h493]; rfl) ?_
          refine zw_7 zr_0_1202 rfl ?_
          refine zw_7s zr_0_1203 rfl ?_
          refine zw_3 zr_0_1204 rfl ?_
          refine zw_push zr_0_1205 ?_
          refine zw_16 zr_0_1206 (by omega) ?_
          refine zw_100 zr_0_1207 rfl (by omega) (by omega) ?_
          intro x494 ex494 hx494a hx494b
          obtain ⟨f495, ef495⟩ : ∃ v, m3 1 0 = v := ⟨_, rfl⟩
          have bf495 := ib_1_0 hIm3
          rw [ef495] at bf495
          obtain ⟨f496, ef496⟩ : ∃ v, m3 1 1 = v := ⟨_, rfl⟩
          have bf496 := ib_1_1 hIm3
          rw [ef496] at bf496
          obtain ⟨f497, ef497⟩ : ∃ v, m3 1 2 = v := ⟨_, rfl⟩
          have bf497 := ib_1_2 hIm3
          rw [ef497] at bf497
          obtain ⟨f498, ef498⟩ : ∃ v, m3 1 3 = v := ⟨_, rfl⟩
          have bf498 := ib_1_3 hIm3
          rw [ef498] at bf498
          refine zw_C zr_0_1208 (Or.inl rfl) zm_137 rfl rfl ⟨Nat.le_of_ble_eq_true rfl, Nat.le_of_ble_eq_true rfl, Nat.le_of_ble_eq_true rfl, rfl, by decide⟩ (by omega) (th_137 (d := d - 1) (by omega) hIm3 (a0 := x494) (g0 := f495) (g1 := f496) (g2 := f497) (g3 := f498)   ef495 ef496 ef497 ef498  (by omega) ) ?_
          rintro _ _ ⟨r499, rfl, hr499a, hr499b, rfl, po0_r499⟩
          show zW E (d) 0 1211 [(6, 0), (2, 0), (2, 69), (0, i2)] [(0, r499)] m3 Q
          refine zw_115 zr_0_1211 rfl ?_
          refine zw_7 zr_0_1212 rfl ?_
          refine zw_7s zr_0_1213 rfl ?_
          refine zw_3 zr_0_1214 rfl ?_
          refine zw_push zr_0_1215 ?_
          refine zw_16 zr_0_1216 (by omega) ?_
          refine zw_100k zr_0_1217 rfl (by omega) (by omega) ex494.symm ?_
          obtain ⟨f500, ef500⟩ : ∃ v, m3 70 822 = v := ⟨_, rfl⟩
          have bf500 : 0 ≤ m3 70 822 ∧ m3 70 822 ≤ 10 := ib_70_players hIm3 (by omega)
          rw [ef500] at bf500
          obtain ⟨f501, ef501⟩ : ∃ v, m3 70 823 = v := ⟨_, rfl⟩
          have bf501 : 0 ≤ m3 70 823 ∧ m3 70 823 ≤ 60 := ib_70_meetings hIm3 (by omega)
          rw [ef501] at bf501
          refine zw_C zr_0_1218 (Or.inl rfl) zm_210 rfl rfl ⟨Nat.le_of_ble_eq_true rfl, Nat.le_of_ble_eq_true rfl, Nat.le_of_ble_eq_true rfl, rfl, by decide⟩ (by omega) (th_210 (d := d - 1) (by omega) hIm3 (a0 := x494) (g0 := f500) (g1 := f501)  (F70 := m3 70) ef500 ef501 rfl (by omega) ) ?_
          rintro _ _ ⟨r502, rfl, hr502a, hr502b, rfl, po0_r502⟩
          show zW E (d) 0 1221 [(6, 0), (2, 0), (2, 69), (0, i2)] [(0, r502)] m3 Q
          have hqz504 := zq_count hIm3 hv0lp18_4 (zFr.rfl (W := [])) ef495 ef496 ef497 ef498 po0_r499 ef500 ef501 po0_r502
          refine zw_115 zr_0_1221 rfl ?_
          refine zw_42 zr_0_1222 ?_
          refine zw_15 (c := 6) (L' := [(6, 0), (2, 0), (2, 69), (0, (i2 + 6))]) zr_0_1238 rfl (by decide) (by omega) rfl ?_
          refine zw_42 zr_0_1241 ?_
          exact zw_less (L := [(6, 0), (2, 0), (2, 69), (0, (i2 + 6))]) ⟨Or.inr rfl, Or.inr rfl, Or.inr rfl, Or.inr rfl, trivial⟩ (ihlp18_4 ((i2 + 6)) m3 hIm3 hFm3   (by omega) (by omega) (by assumption) (by assumption) (by omega))
        by_cases h508 : x9 = 33
        · refine zw_111 (t := 1225) zr_0_33 (by rw [h508]; rfl) ?_
          refine zw_7 zr_0_1225 rfl ?_
          obtain ⟨f509, ef509⟩ : ∃ v, m3 1 0 = v := ⟨_, rfl⟩
          have bf509 := ib_1_0 hIm3
          rw [ef509] at bf509
          obtain ⟨f510, ef510⟩ : ∃ v, m3 1 1 = v := ⟨_, rfl⟩
          have bf510 := ib_1_1 hIm3
          rw [ef510] at bf510
          obtain ⟨f511, ef511⟩ : ∃ v, m3 1 2 = v := ⟨_, rfl⟩
          have bf511 := ib_1_2 hIm3
          rw [ef511] at bf511
          obtain ⟨f512, ef512⟩ : ∃ v, m3 1 3 = v := ⟨_, rfl⟩
          have bf512 := ib_1_3 hIm3
          rw [ef512] at bf512
          obtain ⟨f513, ef513⟩ : ∃ v, m3 1 4 = v := ⟨_, rfl⟩
          have bf513 := ib_1_4 hIm3
          rw [ef513] at bf513
          obtain ⟨f514, ef514⟩ : ∃ v, m3 1 5 = v := ⟨_, rfl⟩
          have bf514 := ib_1_5 hIm3
          rw [ef514] at bf514
          obtain ⟨f515, ef515⟩ : ∃ v, m3 42 0 = v := ⟨_, rfl⟩
          have bf515 := hIm3.fl (c := 42) (k := 0) rfl
          rw [ef515] at bf515
          obtain ⟨f516, ef516⟩ : ∃ v, m3 42 1 = v := ⟨_, rfl⟩
          have bf516 := hIm3.fl (c := 42) (k := 1) rfl
          rw [ef516] at bf516
          refine zw_C zr_0_1226 (Or.inl rfl) zm_138 rfl rfl ⟨Nat.le_of_ble_eq_true rfl, Nat.le_of_ble_eq_true rfl, Nat.le_of_ble_eq_true rfl, rfl, by decide⟩ (by omega) (th_138 (d := d - 1) (by omega) hIm3  (g0 := f509) (g1 := f510) (g2 := f511) (g3 := f512) (g4 := f513) (g5 := f514) (g6 := f515) (g7 := f516)  (F2 := m3 2) (F3 := m3 3) (F4 := m3 4) (F5 := m3 5) (F6 := m3 6) (F7 := m3 7) (F8 := m3 8) (F9 := m3 9) (F10 := m3 10) (F11 := m3 11) (F12 := m3 12) (F13 := m3 13) ef509 ef510 ef511 ef512 ef513 ef514 ef515 ef516 rfl rfl rfl rfl rfl rfl rfl rfl rfl rfl rfl rfl  ) ?_
          rintro _ _ ⟨r517, rfl, hr517a, hr517b, rfl, po0_r517⟩
          show zW E (d) 0 1229 [(6, 0), (2, 0), (2, 69), (0, i2)] [(1, r517)] m3 Q
          refine zw_116 zr_0_1229 rfl ?_
          refine zw_7 zr_0_1230 rfl ?_
          obtain ⟨f518, ef518⟩ : ∃ v, m3 70 822 = v := ⟨_, rfl⟩
          have bf518 : 0 ≤ m3 70 822 ∧ m3 70 822 ≤ 10 := ib_70_players hIm3 (by omega)
          rw [ef518] at bf518
          obtain ⟨f519, ef519⟩ : ∃ v, m3 70 823 = v := ⟨_, rfl⟩
          have bf519 : 0 ≤ m3 70 823 ∧ m3 70 823 ≤ 60 := ib_70_meetings hIm3 (by omega)
          rw [ef519] at bf519
          obtain ⟨f520, ef520⟩ : ∃ v, m3 69 3 = v := ⟨_, rfl⟩
          have bf520 := hIm3.fl (c := 69) (k := 3) rfl
          rw [ef520] at bf520
          obtain ⟨f521, ef521⟩ : ∃ v, m3 69 4 = v := ⟨_, rfl⟩
          have bf521 := hIm3.fl (c := 69) (k := 4) rfl
          rw [ef521] at bf521
          refine zw_C zr_0_1231 (Or.inl rfl) zm_212 rfl rfl ⟨Nat.le_of_ble_eq_true rfl, Nat.le_of_ble_eq_true rfl, Nat.le_of_ble_eq_true rfl, rfl, by decide⟩ (by omega) (th_212 (d := d - 1) (by omega) hIm3  (g0 := f518) (g1 := f519) (g2 := f520) (g3 := f521)  (F70 := m3 70) ef518 ef519 ef520 ef521 rfl  ) ?_
          rintro _ _ ⟨r522, rfl, hr522a, hr522b, rfl, po0_r522⟩
          show zW E (d) 0 1234 [(6, 0), (2, 0), (2, 69), (0, i2)] [(1, r522)] m3 Q
          have hqz525 := zq_digest hIm3 hv0lp18_4 hv1lp18_4 (zFr.rfl (W := [])) ef509 ef510 ef511 ef512 ef513 ef514 ef515 ef516 po0_r517 ef518 ef519 ef520 ef521 po0_r522
          refine zw_116 zr_0_1234 rfl ?_
          refine zw_42 zr_0_1235 ?_
          refine zw_15 (c := 6) (L' := [(6, 0), (2, 0), (2, 69), (0, (i2 + 6))]) zr_0_1238 rfl (by decide) (by omega) rfl ?_
          refine zw_42 zr_0_1241 ?_
          exact zw_less (L := [(6, 0), (2, 0), (2, 69), (0, (i2 + 6))]) ⟨Or.inr rfl, Or.inr rfl, Or.inr rfl, Or.inr rfl, trivial⟩ (ihlp18_4 ((i2 + 6)) m3 hIm3 hFm3   (by omega) (by omega) (by assumption) (by assumption) (by omega))
        refine zw_111d (t := 1238) zr_0_33 (by omega) rfl ?_
        refine zw_15 (c := 6) (L' := [(6, 0), (2, 0), (2, 69), (0, (i2 + 6))]) zr_0_1238 rfl (by decide) (by omega) rfl ?_
        refine zw_42 zr_0_1241 ?_
        exact zw_less (L := [(6, 0), (2, 0), (2, 69), (0, (i2 + 6))]) ⟨Or.inr rfl, Or.inr rfl, Or.inr rfl, Or.inr rfl, trivial⟩ (ihlp18_4 ((i2 + 6)) m3 hIm3 hFm3   (by omega) (by omega) (by assumption) (by assumption) (by omega))
  exact lp18_4 _ (0) m0 hI0 hF0   (by omega) (by omega) (hK0) (hK1) (Nat.lt_succ_self _)
