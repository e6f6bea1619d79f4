abbrev W_0 : List (Nat × Nat) := [(1, 0), (1, 1), (1, 2), (1, 3), (1, 4), (1, 5), (2, 1000), (3, 1000), (4, 1000), (5, 1000), (6, 1000), (7, 1000), (8, 1000), (9, 1000), (10, 1000), (11, 1000), (12, 1000), (13, 1000), (15, 0), (15, 1), (15, 2), (15, 3), (15, 4), (15, 5), (16, 1000), (17, 1000), (18, 1000), (19, 1000), (20, 1000), (21, 1000), (22, 1000), (23, 1000), (24, 1000), (25, 1000), (26, 1000), (27, 1000), (28, 0), (28, 1), (28, 2), (28, 3), (28, 4), (28, 5), (29, 1000), (30, 1000), (31, 1000), (32, 1000), (33, 1000), (34, 1000), (35, 1000), (36, 1000), (37, 1000), (38, 1000), (39, 1000), (40, 1000), (41, 1000), (42, 0), (42, 1), (43, 5), (44, 1000), (45, 1), (45, 5), (45, 6), (45, 7), (45, 8), (45, 9), (46, 1000), (47, 1000), (48, 1000), (49, 1000), (50, 1000), (51, 1000), (52, 0), (52, 1), (52, 2), (53, 1000), (54, 1000), (55, 5), (56, 1000), (57, 1000), (58, 1000), (59, 1000), (61, 1000), (62, 1000), (63, 0), (64, 1000), (65, 1000), (66, 1000), (67, 1000), (68, 1000), (69, 3), (69, 4), (69, 5), (69, 6), (69, 7), (69, 9), (69, 11), (69, 13), (69, 17), (69, 18), (69, 23), (69, 24), (70, 1000), (71, 1000), (72, 1000), (73, 1000), (74, 1000), (75, 1000), (76, 1000), (77, 1000), (78, 1000), (79, 1000), (80, 1000), (81, 1000), (82, 1000), (83, 1000), (84, 1000)]
set_option maxHeartbeats 40000000 in
theorem th_0 {E : zE} {d : Nat} {m0 : zM} (hd : 97 ≤ d) (hI0 : zInv m0) (hK0 : qK m0) (hK1 : qFr m0) {n1 : Int} (hn1 : (E.1 : Int) = n1) (hn2 : n1 ≤ 3072) : zW E d 0 18 [(6, 0), (2, 0), (2, 69), (0, 0)] [] m0 (fun v m' => ∃ r : Int, v = (0, r) ∧ 1 ≤ r ∧ r ≤ 1 ∧ zInv m' ∧ zFr W_0 m0 m') := by
  have hF0 : zFr W_0 m0 m0 := zFr.rfl
  generalize hQ : (fun (v : zV) (m' : zM) => ∃ r : Int, v = (0, r) ∧ 1 ≤ r ∧ r ≤ 1 ∧ zInv m' ∧ zFr W_0 m0 m') = Q
  have lp18_4 : ∀ (nlp18_4 : Nat) (i2 : Int) (m3 : zM), zInv m3 → zFr W_0 m0 m3 → 0 ≤ i2 → i2 ≤ 9999 → (qK m3) → (qFr m3) → (3078 - i2).toNat < nlp18_4 → zW E (d) 0 18 [(6, 0), (2, 0), (2, 69), (0, i2)] [] m3 Q := by
    intro nlp18_4
    induction nlp18_4 with
    | zero =>
      intros
      exact absurd (by assumption : _ < 0) (Nat.not_lt_zero _)
    | succ nlp18_4 ihlp18_4 =>
      intro i2 m3 hIm3 hFm3 li2 ui2 hv0lp18_4 hv1lp18_4 hmlp18_4
      refine zw_3 zr_0_18 rfl ?_
      refine zw_7s zr_0_19 rfl ?_
      refine zw_101n zr_0_20 rfl (by omega) hn1 ?_
      refine zw_push zr_0_21 ?_
      refine zw_17 zr_0_23 (by omega) ?_
      refine zw_41_2 zr_0_24 ?_ ?_
      · intro h6
        refine zw_push zr_0_1245 ?_
        refine zw_R zr_0_1246 (by decide) zm_0 (v := (0, 1)) (zRetB (by omega)) ?_
        rw [← hQ]; exact ⟨_, rfl, by omega, by omega, hIm3, hFm3⟩
      · intro h7
        refine zw_7s zr_0_27 rfl ?_
        refine zw_3 zr_0_28 rfl ?_
        refine zw_100 zr_0_29 rfl (by omega) (by omega) ?_
        intro x8 ex8 hx8a hx8b
        clear ex8
        refine zw_push zr_0_30 ?_
        refine zw_21m zr_0_32 (by omega) (by omega) ?_
        intro x9 hx9a hx9b
        by_cases h10 : x9 = 0
        · refine zw_111 (t := 184) zr_0_33 (by rw [h10]; rfl) ?_
          refine zw_7 zr_0_184 rfl ?_
          refine zw_7s zr_0_185 rfl ?_
          refine zw_3 zr_0_186 rfl ?_
          refine zw_push zr_0_187 ?_
          refine zw_16 zr_0_188 (by omega) ?_
          refine zw_100 zr_0_189 rfl (by omega) (by omega) ?_
          intro x11 ex11 hx11a hx11b
          obtain ⟨f12, ef12⟩ : ∃ v, m3 1 0 = v := ⟨_, rfl⟩
          have bf12 := ib_1_0 hIm3
          rw [ef12] at bf12
          refine zw_C zr_0_190 (Or.inl rfl) zm_99 rfl rfl ⟨Nat.le_of_ble_eq_true rfl, Nat.le_of_ble_eq_true rfl, Nat.le_of_ble_eq_true rfl, rfl, by decide⟩ (by omega) (th_99 (d := d - 1) (by omega) hIm3 (a0 := x11) (g0 := f12)  (F2 := m3 2) ef12 rfl (by omega) ) ?_
          rintro _ m13 ⟨r14, rfl, hr14a, hr14b, hIm13, gm13, po0_r14, po1_r14, po2_r14⟩
          have hFm13 : zFr W_0 m0 m13 := hFm3.trans gm13 rfl
          show zW E (d) 0 193 [(6, 0), (2, 0), (2, 69), (0, i2)] [(0, r14)] m13 Q
          refine zw_115 zr_0_193 rfl ?_
          refine zw_7 zr_0_194 rfl ?_
          refine zw_7s zr_0_195 rfl ?_
          refine zw_3 zr_0_196 rfl ?_
          refine zw_push zr_0_197 ?_
          refine zw_16 zr_0_198 (by omega) ?_
          refine zw_100k zr_0_199 rfl (by omega) (by omega) ex11.symm ?_
          obtain ⟨f15, ef15⟩ : ∃ v, m13 70 822 = v := ⟨_, rfl⟩
          have bf15 : 0 ≤ m13 70 822 ∧ m13 70 822 ≤ 10 := ib_70_players hIm13 (by omega)
          rw [ef15] at bf15
          refine zw_C zr_0_200 (Or.inl rfl) zm_145 rfl rfl ⟨Nat.le_of_ble_eq_true rfl, Nat.le_of_ble_eq_true rfl, Nat.le_of_ble_eq_true rfl, rfl, by decide⟩ (by omega) (th_145 (d := d - 1) (by omega) hIm13 (a0 := x11) (g0 := f15)  (F70 := m13 70) ef15 rfl (by omega) ) ?_
          rintro _ m16 ⟨r17, rfl, hr17a, hr17b, hIm16, gm16, po0_r17, po1_r17⟩
          have hFm16 : zFr W_0 m0 m16 := hFm13.trans gm16 rfl
          show zW E (d) 0 203 [(6, 0), (2, 0), (2, 69), (0, i2)] [(0, r17)] m16 Q
          obtain ⟨hkz18, hrz18⟩ := zk_player hIm3 hv0lp18_4 gm13 ef12 po0_r14 po1_r14 po2_r14 gm16 ef15 po0_r17 po1_r17
          have hfz19_0 := zfr_fr hv1lp18_4 gm13
          have hfz19_1 := zfr_fr hfz19_0 gm16
          refine zw_115 zr_0_203 rfl ?_
          refine zw_42 zr_0_204 ?_
          refine zw_15 (c := 6) (L' := [(6, 0), (2, 0), (2, 69), (0, (i2 + 6))]) zr_0_1239 rfl (by decide) (by omega) rfl ?_
          refine zw_42 zr_0_1242 ?_
          exact zw_less (L := [(6, 0), (2, 0), (2, 69), (0, (i2 + 6))]) ⟨Or.inr rfl, Or.inr rfl, Or.inr rfl, Or.inr rfl, trivial⟩ (ihlp18_4 ((i2 + 6)) m16 hIm16 hFm16   (by omega) (by omega) (by assumption) (by assumption) (by omega))
        by_cases h22 : x9 = 1
        · refine zw_111 (t := 207) zr_0_33 (by rw [h22]; rfl) ?_
          refine zw_7 zr_0_207 rfl ?_
          refine zw_7s zr_0_208 rfl ?_
          refine zw_3 zr_0_209 rfl ?_
          refine zw_push zr_0_210 ?_
          refine zw_16 zr_0_211 (by omega) ?_
          refine zw_100 zr_0_212 rfl (by omega) (by omega) ?_
          intro x23 ex23 hx23a hx23b
          refine zw_7s zr_0_213 rfl ?_
          refine zw_3 zr_0_214 rfl ?_
          refine zw_push zr_0_215 ?_
          refine zw_16 zr_0_216 (by omega) ?_
          refine zw_100 zr_0_217 rfl (by omega) (by omega) ?_
          intro x24 ex24 hx24a hx24b
          refine zw_7s zr_0_218 rfl ?_
          refine zw_3 zr_0_219 rfl ?_
          refine zw_push zr_0_220 ?_
          refine zw_16 zr_0_221 (by omega) ?_
          refine zw_100 zr_0_222 rfl (by omega) (by omega) ?_
          intro x25 ex25 hx25a hx25b
          refine zw_7s zr_0_223 rfl ?_
          refine zw_3 zr_0_224 rfl ?_
          refine zw_push zr_0_225 ?_
          refine zw_16 zr_0_226 (by omega) ?_
          refine zw_100 zr_0_227 rfl (by omega) (by omega) ?_
          intro x26 ex26 hx26a hx26b
          refine zw_7s zr_0_228 rfl ?_
          refine zw_3 zr_0_229 rfl ?_
          refine zw_push zr_0_230 ?_
          refine zw_16 zr_0_231 (by omega) ?_
          refine zw_100 zr_0_232 rfl (by omega) (by omega) ?_
          intro x27 ex27 hx27a hx27b
          refine zw_40_1 zr_0_233 ?_ ?_
          · intro h28
            refine zw_push zr_0_240 ?_
            obtain ⟨f29, ef29⟩ : ∃ v, m3 1 0 = v := ⟨_, rfl⟩
            have bf29 := ib_1_0 hIm3
            rw [ef29] at bf29
            obtain ⟨f30, ef30⟩ : ∃ v, m3 1 1 = v := ⟨_, rfl⟩
            have bf30 := ib_1_1 hIm3
            rw [ef30] at bf30
            obtain ⟨f31, ef31⟩ : ∃ v, m3 1 2 = v := ⟨_, rfl⟩
            have bf31 := ib_1_2 hIm3
            rw [ef31] at bf31
            refine zw_C zr_0_241 (Or.inl rfl) zm_102 rfl rfl ⟨Nat.le_of_ble_eq_true rfl, Nat.le_of_ble_eq_true rfl, Nat.le_of_ble_eq_true rfl, rfl, by decide⟩ (by omega) (th_102 (d := d - 1) (by omega) hIm3 (a0 := x23) (a1 := x24) (a2 := x25) (a3 := x26) (a4 := 0) (g0 := f29) (g1 := f30) (g2 := f31)  (F5 := m3 5) (F6 := m3 6) (F7 := m3 7) (F8 := m3 8) ef29 ef30 ef31 rfl rfl rfl rfl (by omega) (by omega) (by omega) (by omega) (by omega) ) ?_
            rintro _ m32 ⟨r33, rfl, hr33a, hr33b, hIm32, gm32, po0_r33, po1_r33, po2_r33, po3_r33, po4_r33, po5_r33, po6_r33, po7_r33⟩
            have hFm32 : zFr W_0 m0 m32 := hFm3.trans gm32 rfl
            have km32_1_0 : m32 1 0 = f29 := (gm32 1 0 rfl).trans ef29
            show zW E (d) 0 244 [(6, 0), (2, 0), (2, 69), (0, i2)] [(0, r33)] m32 Q
            refine zw_115 zr_0_244 rfl ?_
            refine zw_7 zr_0_245 rfl ?_
            refine zw_7s zr_0_246 rfl ?_
            refine zw_3 zr_0_247 rfl ?_
            refine zw_push zr_0_248 ?_
            refine zw_16 zr_0_249 (by omega) ?_
            refine zw_100k zr_0_250 rfl (by omega) (by omega) ex23.symm ?_
            refine zw_7s zr_0_251 rfl ?_
            refine zw_3 zr_0_252 rfl ?_
            refine zw_push zr_0_253 ?_
            refine zw_16 zr_0_254 (by omega) ?_
            refine zw_100k zr_0_255 rfl (by omega) (by omega) ex24.symm ?_
            refine zw_7s zr_0_256 rfl ?_
            refine zw_3 zr_0_257 rfl ?_
            refine zw_push zr_0_258 ?_
            refine zw_16 zr_0_259 (by omega) ?_
            refine zw_100k zr_0_260 rfl (by omega) (by omega) ex25.symm ?_
            refine zw_7s zr_0_261 rfl ?_
            refine zw_3 zr_0_262 rfl ?_
            refine zw_push zr_0_263 ?_
            refine zw_16 zr_0_264 (by omega) ?_
            refine zw_100k zr_0_265 rfl (by omega) (by omega) ex26.symm ?_
            refine zw_7s zr_0_266 rfl ?_
            refine zw_3 zr_0_267 rfl ?_
            refine zw_push zr_0_268 ?_
            refine zw_16 zr_0_269 (by omega) ?_
            refine zw_100k zr_0_270 rfl (by omega) (by omega) ex27.symm ?_
            refine zw_40_1 zr_0_271 ?_ ?_
            · intro h34
              refine zw_push zr_0_278 ?_
              obtain ⟨f35, ef35⟩ : ∃ v, m32 70 822 = v := ⟨_, rfl⟩
              have bf35 : 0 ≤ m32 70 822 ∧ m32 70 822 ≤ 10 := ib_70_players hIm32 (by omega)
              rw [ef35] at bf35
              obtain ⟨f36, ef36⟩ : ∃ v, m32 70 823 = v := ⟨_, rfl⟩
              have bf36 : 0 ≤ m32 70 823 ∧ m32 70 823 ≤ 60 := ib_70_meetings hIm32 (by omega)
              rw [ef36] at bf36
              refine zw_C zr_0_279 (Or.inl rfl) zm_146 rfl rfl ⟨Nat.le_of_ble_eq_true rfl, Nat.le_of_ble_eq_true rfl, Nat.le_of_ble_eq_true rfl, rfl, by decide⟩ (by omega) (th_146 (d := d - 1) (by omega) hIm32 (a0 := x23) (a1 := x24) (a2 := x25) (a3 := x26) (a4 := 0) (g0 := f35) (g1 := f36)  (F70 := m32 70) ef35 ef36 rfl (by omega) (by omega) (by omega) (by omega) (by omega) ) ?_
              rintro _ m37 ⟨r38, rfl, hr38a, hr38b, hIm37, gm37, po0_r38, po1_r38⟩
              have hFm37 : zFr W_0 m0 m37 := hFm32.trans gm37 rfl
              have km37_1_0 : m37 1 0 = f29 := (gm37 1 0 rfl).trans km32_1_0
              show zW E (d) 0 282 [(6, 0), (2, 0), (2, 69), (0, i2)] [(0, r38)] m37 Q
              obtain ⟨hkz39, hrz39⟩ := zk_meeting hIm3 hv0lp18_4 gm32 ef29 ef30 ef31 po0_r33 po1_r33 po2_r33 po3_r33 po4_r33 po5_r33 po6_r33 po7_r33 gm37 ef35 ef36 po0_r38 po1_r38
              have hfz40_0 := zfr_fr hv1lp18_4 gm32
              have hfz40_1 := zfr_fr hfz40_0 gm37
              refine zw_115 zr_0_282 rfl ?_
              refine zw_42 zr_0_283 ?_
              refine zw_15 (c := 6) (L' := [(6, 0), (2, 0), (2, 69), (0, (i2 + 6))]) zr_0_1239 rfl (by decide) (by omega) rfl ?_
              refine zw_42 zr_0_1242 ?_
              exact zw_less (L := [(6, 0), (2, 0), (2, 69), (0, (i2 + 6))]) ⟨Or.inr rfl, Or.inr rfl, Or.inr rfl, Or.inr rfl, trivial⟩ (ihlp18_4 ((i2 + 6)) m37 hIm37 hFm37   (by omega) (by omega) (by assumption) (by assumption) (by omega))
            · intro h43; omega
          · intro h44
            refine zw_push zr_0_236 ?_
            refine zw_42 zr_0_237 ?_
            obtain ⟨f45, ef45⟩ : ∃ v, m3 1 0 = v := ⟨_, rfl⟩
            have bf45 := ib_1_0 hIm3
            rw [ef45] at bf45
            obtain ⟨f46, ef46⟩ : ∃ v, m3 1 1 = v := ⟨_, rfl⟩
            have bf46 := ib_1_1 hIm3
            rw [ef46] at bf46
            obtain ⟨f47, ef47⟩ : ∃ v, m3 1 2 = v := ⟨_, rfl⟩
            have bf47 := ib_1_2 hIm3
            rw [ef47] at bf47
            refine zw_C zr_0_241 (Or.inl rfl) zm_102 rfl rfl ⟨Nat.le_of_ble_eq_true rfl, Nat.le_of_ble_eq_true rfl, Nat.le_of_ble_eq_true rfl, rfl, by decide⟩ (by omega) (th_102 (d := d - 1) (by omega) hIm3 (a0 := x23) (a1 := x24) (a2 := x25) (a3 := x26) (a4 := 1) (g0 := f45) (g1 := f46) (g2 := f47)  (F5 := m3 5) (F6 := m3 6) (F7 := m3 7) (F8 := m3 8) ef45 ef46 ef47 rfl rfl rfl rfl (by omega) (by omega) (by omega) (by omega) (by omega) ) ?_
            rintro _ m48 ⟨r49, rfl, hr49a, hr49b, hIm48, gm48, po0_r49, po1_r49, po2_r49, po3_r49, po4_r49, po5_r49, po6_r49, po7_r49⟩
            have hFm48 : zFr W_0 m0 m48 := hFm3.trans gm48 rfl
            have km48_1_0 : m48 1 0 = f45 := (gm48 1 0 rfl).trans ef45
            show zW E (d) 0 244 [(6, 0), (2, 0), (2, 69), (0, i2)] [(0, r49)] m48 Q
            refine zw_115 zr_0_244 rfl ?_
            refine zw_7 zr_0_245 rfl ?_
            refine zw_7s zr_0_246 rfl ?_
            refine zw_3 zr_0_247 rfl ?_
            refine zw_push zr_0_248 ?_
            refine zw_16 zr_0_249 (by omega) ?_
            refine zw_100k zr_0_250 rfl (by omega) (by omega) ex23.symm ?_
            refine zw_7s zr_0_251 rfl ?_
            refine zw_3 zr_0_252 rfl ?_
            refine zw_push zr_0_253 ?_
            refine zw_16 zr_0_254 (by omega) ?_
            refine zw_100k zr_0_255 rfl (by omega) (by omega) ex24.symm ?_
            refine zw_7s zr_0_256 rfl ?_
            refine zw_3 zr_0_257 rfl ?_
            refine zw_push zr_0_258 ?_
            refine zw_16 zr_0_259 (by omega) ?_
            refine zw_100k zr_0_260 rfl (by omega) (by omega) ex25.symm ?_
            refine zw_7s zr_0_261 rfl ?_
            refine zw_3 zr_0_262 rfl ?_
            refine zw_push zr_0_263 ?_
            refine zw_16 zr_0_264 (by omega) ?_
            refine zw_100k zr_0_265 rfl (by omega) (by omega) ex26.symm ?_
            refine zw_7s zr_0_266 rfl ?_
            refine zw_3 zr_0_267 rfl ?_
            refine zw_push zr_0_268 ?_
            refine zw_16 zr_0_269 (by omega) ?_
            refine zw_100k zr_0_270 rfl (by omega) (by omega) ex27.symm ?_
            refine zw_40_1 zr_0_271 ?_ ?_
            · intro h50; omega
            · intro h51
              refine zw_push zr_0_274 ?_
              refine zw_42 zr_0_275 ?_
              obtain ⟨f52, ef52⟩ : ∃ v, m48 70 822 = v := ⟨_, rfl⟩
              have bf52 : 0 ≤ m48 70 822 ∧ m48 70 822 ≤ 10 := ib_70_players hIm48 (by omega)
              rw [ef52] at bf52
              obtain ⟨f53, ef53⟩ : ∃ v, m48 70 823 = v := ⟨_, rfl⟩
              have bf53 : 0 ≤ m48 70 823 ∧ m48 70 823 ≤ 60 := ib_70_meetings hIm48 (by omega)
              rw [ef53] at bf53
              refine zw_C zr_0_279 (Or.inl rfl) zm_146 rfl rfl ⟨Nat.le_of_ble_eq_true rfl, Nat.le_of_ble_eq_true rfl, Nat.le_of_ble_eq_true rfl, rfl, by decide⟩ (by omega) (th_146 (d := d - 1) (by omega) hIm48 (a0 := x23) (a1 := x24) (a2 := x25) (a3 := x26) (a4 := 1) (g0 := f52) (g1 := f53)  (F70 := m48 70) ef52 ef53 rfl (by omega) (by omega) (by omega) (by omega) (by omega) ) ?_
              rintro _ m54 ⟨r55, rfl, hr55a, hr55b, hIm54, gm54, po0_r55, po1_r55⟩
              have hFm54 : zFr W_0 m0 m54 := hFm48.trans gm54 rfl
              have km54_1_0 : m54 1 0 = f45 := (gm54 1 0 rfl).trans km48_1_0
              show zW E (d) 0 282 [(6, 0), (2, 0), (2, 69), (0, i2)] [(0, r55)] m54 Q
              obtain ⟨hkz56, hrz56⟩ := zk_meeting hIm3 hv0lp18_4 gm48 ef45 ef46 ef47 po0_r49 po1_r49 po2_r49 po3_r49 po4_r49 po5_r49 po6_r49 po7_r49 gm54 ef52 ef53 po0_r55 po1_r55
              have hfz57_0 := zfr_fr hv1lp18_4 gm48
              have hfz57_1 := zfr_fr hfz57_0 gm54
              refine zw_115 zr_0_282 rfl ?_
              refine zw_42 zr_0_283 ?_
              refine zw_15 (c := 6) (L' := [(6, 0), (2, 0), (2, 69), (0, (i2 + 6))]) zr_0_1239 rfl (by decide) (by omega) rfl ?_
              refine zw_42 zr_0_1242 ?_
              exact zw_less (L := [(6, 0), (2, 0), (2, 69), (0, (i2 + 6))]) ⟨Or.inr rfl, Or.inr rfl, Or.inr rfl, Or.inr rfl, trivial⟩ (ihlp18_4 ((i2 + 6)) m54 hIm54 hFm54   (by omega) (by omega) (by assumption) (by assumption) (by omega))
        by_cases h60 : x9 = 2
        · refine zw_111 (t := 286) zr_0_33 (by rw [h60]; rfl) ?_
          refine zw_7 zr_0_286 rfl ?_
          refine zw_7s zr_0_287 rfl ?_
          refine zw_3 zr_0_288 rfl ?_
          refine zw_push zr_0_289 ?_
          refine zw_16 zr_0_290 (by omega) ?_
          refine zw_100 zr_0_291 rfl (by omega) (by omega) ?_
          intro x61 ex61 hx61a hx61b
          refine zw_7s zr_0_292 rfl ?_
          refine zw_3 zr_0_293 rfl ?_
          refine zw_push zr_0_294 ?_
          refine zw_16 zr_0_295 (by omega) ?_
          refine zw_100 zr_0_296 rfl (by omega) (by omega) ?_
          intro x62 ex62 hx62a hx62b
          refine zw_7s zr_0_297 rfl ?_
          refine zw_3 zr_0_298 rfl ?_
          refine zw_push zr_0_299 ?_
          refine zw_16 zr_0_300 (by omega) ?_
          refine zw_100 zr_0_301 rfl (by omega) (by omega) ?_
          intro x63 ex63 hx63a hx63b
          refine zw_40_1 zr_0_302 ?_ ?_
          · intro h64
            refine zw_push zr_0_309 ?_
            obtain ⟨f65, ef65⟩ : ∃ v, m3 1 1 = v := ⟨_, rfl⟩
            have bf65 := ib_1_1 hIm3
            rw [ef65] at bf65
            obtain ⟨f66, ef66⟩ : ∃ v, m3 1 2 = v := ⟨_, rfl⟩
            have bf66 := ib_1_2 hIm3
            rw [ef66] at bf66
            obtain ⟨f67, ef67⟩ : ∃ v, m3 1 3 = v := ⟨_, rfl⟩
            have bf67 := ib_1_3 hIm3
            rw [ef67] at bf67
            refine zw_C zr_0_310 (Or.inl rfl) zm_103 rfl rfl ⟨Nat.le_of_ble_eq_true rfl, Nat.le_of_ble_eq_true rfl, Nat.le_of_ble_eq_true rfl, rfl, by decide⟩ (by omega) (th_103 (d := d - 1) (by omega) hIm3 (a0 := x61) (a1 := x62) (a2 := 0) (g0 := f65) (g1 := f66) (g2 := f67)   ef65 ef66 ef67  (by omega) (by omega) (by omega) ) ?_
            rintro _ m68 ⟨r69, rfl, hr69a, hr69b, hIm68, gm68, po0_r69, po1_r69, po2_r69⟩
            have hFm68 : zFr W_0 m0 m68 := hFm3.trans gm68 rfl
            have km68_1_1 : m68 1 1 = f65 := (gm68 1 1 rfl).trans ef65
            show zW E (d) 0 313 [(6, 0), (2, 0), (2, 69), (0, i2)] [(0, r69)] m68 Q
            refine zw_115 zr_0_313 rfl ?_
            refine zw_7 zr_0_314 rfl ?_
            refine zw_7s zr_0_315 rfl ?_
            refine zw_3 zr_0_316 rfl ?_
            refine zw_push zr_0_317 ?_
            refine zw_16 zr_0_318 (by omega) ?_
            refine zw_100k zr_0_319 rfl (by omega) (by omega) ex61.symm ?_
            refine zw_7s zr_0_320 rfl ?_
            refine zw_3 zr_0_321 rfl ?_
            refine zw_push zr_0_322 ?_
            refine zw_16 zr_0_323 (by omega) ?_
            refine zw_100k zr_0_324 rfl (by omega) (by omega) ex62.symm ?_
            refine zw_7s zr_0_325 rfl ?_
            refine zw_3 zr_0_326 rfl ?_
            refine zw_push zr_0_327 ?_
            refine zw_16 zr_0_328 (by omega) ?_
            refine zw_100k zr_0_329 rfl (by omega) (by omega) ex63.symm ?_
            refine zw_40_1 zr_0_330 ?_ ?_
            · intro h70
              refine zw_push zr_0_337 ?_
              obtain ⟨f71, ef71⟩ : ∃ v, m68 70 823 = v := ⟨_, rfl⟩
              have bf71 : 0 ≤ m68 70 823 ∧ m68 70 823 ≤ 60 := ib_70_meetings hIm68 (by omega)
              rw [ef71] at bf71
              refine zw_C zr_0_338 (Or.inl rfl) zm_147 rfl rfl ⟨Nat.le_of_ble_eq_true rfl, Nat.le_of_ble_eq_true rfl, Nat.le_of_ble_eq_true rfl, rfl, by decide⟩ (by omega) (th_147 (d := d - 1) (by omega) hIm68 (a0 := x61) (a1 := x62) (a2 := 0) (g0 := f71)  (F70 := m68 70) ef71 rfl (by omega) (by omega) (by omega) ) ?_
              rintro _ m72 ⟨r73, rfl, hr73a, hr73b, hIm72, gm72, po0_r73, po1_r73⟩
              have hFm72 : zFr W_0 m0 m72 := hFm68.trans gm72 rfl
              have km72_1_1 : m72 1 1 = f65 := (gm72 1 1 rfl).trans km68_1_1
              show zW E (d) 0 341 [(6, 0), (2, 0), (2, 69), (0, i2)] [(0, r73)] m72 Q
              obtain ⟨hkz74, hrz74⟩ := zk_mark hIm3 hv0lp18_4 gm68 ef65 ef66 ef67 po0_r69 po1_r69 po2_r69 gm72 ef71 po0_r73 po1_r73
              have hfz75_0 := zfr_fr hv1lp18_4 gm68
              have hfz75_1 := zfr_fr hfz75_0 gm72
              refine zw_115 zr_0_341 rfl ?_
              refine zw_42 zr_0_342 ?_
              refine zw_15 (c := 6) (L' := [(6, 0), (2, 0), (2, 69), (0, (i2 + 6))]) zr_0_1239 rfl (by decide) (by omega) rfl ?_
              refine zw_42 zr_0_1242 ?_
              exact zw_less (L := [(6, 0), (2, 0), (2, 69), (0, (i2 + 6))]) ⟨Or.inr rfl, Or.inr rfl, Or.inr rfl, Or.inr rfl, trivial⟩ (ihlp18_4 ((i2 + 6)) m72 hIm72 hFm72   (by omega) (by omega) (by assumption) (by assumption) (by omega))
            · intro h78; omega
          · intro h79
            refine zw_push zr_0_305 ?_
            refine zw_42 zr_0_306 ?_
            obtain ⟨f80, ef80⟩ : ∃ v, m3 1 1 = v := ⟨_, rfl⟩
            have bf80 := ib_1_1 hIm3
            rw [ef80] at bf80
            obtain ⟨f81, ef81⟩ : ∃ v, m3 1 2 = v := ⟨_, rfl⟩
            have bf81 := ib_1_2 hIm3
            rw [ef81] at bf81
            obtain ⟨f82, ef82⟩ : ∃ v, m3 1 3 = v := ⟨_, rfl⟩
            have bf82 := ib_1_3 hIm3
            rw [ef82] at bf82
            refine zw_C zr_0_310 (Or.inl rfl) zm_103 rfl rfl ⟨Nat.le_of_ble_eq_true rfl, Nat.le_of_ble_eq_true rfl, Nat.le_of_ble_eq_true rfl, rfl, by decide⟩ (by omega) (th_103 (d := d - 1) (by omega) hIm3 (a0 := x61) (a1 := x62) (a2 := 1) (g0 := f80) (g1 := f81) (g2 := f82)   ef80 ef81 ef82  (by omega) (by omega) (by omega) ) ?_
            rintro _ m83 ⟨r84, rfl, hr84a, hr84b, hIm83, gm83, po0_r84, po1_r84, po2_r84⟩
            have hFm83 : zFr W_0 m0 m83 := hFm3.trans gm83 rfl
            have km83_1_1 : m83 1 1 = f80 := (gm83 1 1 rfl).trans ef80
            show zW E (d) 0 313 [(6, 0), (2, 0), (2, 69), (0, i2)] [(0, r84)] m83 Q
            refine zw_115 zr_0_313 rfl ?_
            refine zw_7 zr_0_314 rfl ?_
            refine zw_7s zr_0_315 rfl ?_
            refine zw_3 zr_0_316 rfl ?_
            refine zw_push zr_0_317 ?_
            refine zw_16 zr_0_318 (by omega) ?_
            refine zw_100k zr_0_319 rfl (by omega) (by omega) ex61.symm ?_
            refine zw_7s zr_0_320 rfl ?_
            refine zw_3 zr_0_321 rfl ?_
            refine zw_push zr_0_322 ?_
            refine zw_16 zr_0_323 (by omega) ?_
            refine zw_100k zr_0_324 rfl (by omega) (by omega) ex62.symm ?_
            refine zw_7s zr_0_325 rfl ?_
            refine zw_3 zr_0_326 rfl ?_
            refine zw_push zr_0_327 ?_
            refine zw_16 zr_0_328 (by omega) ?_
            refine zw_100k zr_0_329 rfl (by omega) (by omega) ex63.symm ?_
            refine zw_40_1 zr_0_330 ?_ ?_
            · intro h85; omega
            · intro h86
              refine zw_push zr_0_333 ?_
              refine zw_42 zr_0_334 ?_
              obtain ⟨f87, ef87⟩ : ∃ v, m83 70 823 = v := ⟨_, rfl⟩
              have bf87 : 0 ≤ m83 70 823 ∧ m83 70 823 ≤ 60 := ib_70_meetings hIm83 (by omega)
              rw [ef87] at bf87
              refine zw_C zr_0_338 (Or.inl rfl) zm_147 rfl rfl ⟨Nat.le_of_ble_eq_true rfl, Nat.le_of_ble_eq_true rfl, Nat.le_of_ble_eq_true rfl, rfl, by decide⟩ (by omega) (th_147 (d := d - 1) (by omega) hIm83 (a0 := x61) (a1 := x62) (a2 := 1) (g0 := f87)  (F70 := m83 70) ef87 rfl (by omega) (by omega) (by omega) ) ?_
              rintro _ m88 ⟨r89, rfl, hr89a, hr89b, hIm88, gm88, po0_r89, po1_r89⟩
              have hFm88 : zFr W_0 m0 m88 := hFm83.trans gm88 rfl
              have km88_1_1 : m88 1 1 = f80 := (gm88 1 1 rfl).trans km83_1_1
              show zW E (d) 0 341 [(6, 0), (2, 0), (2, 69), (0, i2)] [(0, r89)] m88 Q
              obtain ⟨hkz90, hrz90⟩ := zk_mark hIm3 hv0lp18_4 gm83 ef80 ef81 ef82 po0_r84 po1_r84 po2_r84 gm88 ef87 po0_r89 po1_r89
              have hfz91_0 := zfr_fr hv1lp18_4 gm83
              have hfz91_1 := zfr_fr hfz91_0 gm88
              refine zw_115 zr_0_341 rfl ?_
              refine zw_42 zr_0_342 ?_
              refine zw_15 (c := 6) (L' := [(6, 0), (2, 0), (2, 69), (0, (i2 + 6))]) zr_0_1239 rfl (by decide) (by omega) rfl ?_
              refine zw_42 zr_0_1242 ?_
              exact zw_less (L := [(6, 0), (2, 0), (2, 69), (0, (i2 + 6))]) ⟨Or.inr rfl, Or.inr rfl, Or.inr rfl, Or.inr rfl, trivial⟩ (ihlp18_4 ((i2 + 6)) m88 hIm88 hFm88   (by omega) (by omega) (by assumption) (by assumption) (by omega))
        by_cases h94 : x9 = 3
        · refine zw_111 (t := 345) zr_0_33 (by rw [h94]; rfl) ?_
          refine zw_7 zr_0_345 rfl ?_
          refine zw_7s zr_0_346 rfl ?_
          refine zw_3 zr_0_347 rfl ?_
          refine zw_push zr_0_348 ?_
          refine zw_16 zr_0_349 (by omega) ?_
          refine zw_100 zr_0_350 rfl (by omega) (by omega) ?_
          intro x95 ex95 hx95a hx95b
          refine zw_7s zr_0_351 rfl ?_
          refine zw_3 zr_0_352 rfl ?_
          refine zw_push zr_0_353 ?_
          refine zw_16 zr_0_354 (by omega) ?_
          refine zw_100 zr_0_355 rfl (by omega) (by omega) ?_
          intro x96 ex96 hx96a hx96b
          refine zw_C zr_0_356 (Or.inl rfl) zm_105 rfl rfl ⟨Nat.le_of_ble_eq_true rfl, Nat.le_of_ble_eq_true rfl, Nat.le_of_ble_eq_true rfl, rfl, by decide⟩ (by omega) (th_105 (d := d - 1) (by omega) hIm3 (a0 := x95) (a1 := x96)   (F9 := m3 9)  rfl (by omega) (by omega) ) ?_
          rintro _ m97 ⟨r98, rfl, hr98a, hr98b, hIm97, gm97, po0_r98, po1_r98⟩
          have hFm97 : zFr W_0 m0 m97 := hFm3.trans gm97 rfl
          show zW E (d) 0 359 [(6, 0), (2, 0), (2, 69), (0, i2)] [(0, r98)] m97 Q
          refine zw_115 zr_0_359 rfl ?_
          refine zw_7 zr_0_360 rfl ?_
          refine zw_7s zr_0_361 rfl ?_
          refine zw_3 zr_0_362 rfl ?_
          refine zw_push zr_0_363 ?_
          refine zw_16 zr_0_364 (by omega) ?_
          refine zw_100k zr_0_365 rfl (by omega) (by omega) ex95.symm ?_
          refine zw_7s zr_0_366 rfl ?_
          refine zw_3 zr_0_367 rfl ?_
          refine zw_push zr_0_368 ?_
          refine zw_16 zr_0_369 (by omega) ?_
          refine zw_100k zr_0_370 rfl (by omega) (by omega) ex96.symm ?_
          refine zw_C zr_0_371 (Or.inl rfl) zm_149 rfl rfl ⟨Nat.le_of_ble_eq_true rfl, Nat.le_of_ble_eq_true rfl, Nat.le_of_ble_eq_true rfl, rfl, by decide⟩ (by omega) (th_149 (d := d - 1) (by omega) hIm97 (a0 := x95) (a1 := x96)   (F70 := m97 70)  rfl (by omega) (by omega) ) ?_
          rintro _ m99 ⟨r100, rfl, hr100a, hr100b, hIm99, gm99, po0_r100, po1_r100⟩
          have hFm99 : zFr W_0 m0 m99 := hFm97.trans gm99 rfl
          show zW E (d) 0 374 [(6, 0), (2, 0), (2, 69), (0, i2)] [(0, r100)] m99 Q
          obtain ⟨hkz101, hrz101⟩ := zk_first hIm3 hv0lp18_4 gm97 po0_r98 po1_r98 gm99 po0_r100 po1_r100
          have hfz102_0 := zfr_fr hv1lp18_4 gm97
          have hfz102_1 := zfr_fr hfz102_0 gm99
          refine zw_115 zr_0_374 rfl ?_
          refine zw_42 zr_0_375 ?_
          refine zw_15 (c := 6) (L' := [(6, 0), (2, 0), (2, 69), (0, (i2 + 6))]) zr_0_1239 rfl (by decide) (by omega) rfl ?_
          refine zw_42 zr_0_1242 ?_
          exact zw_less (L := [(6, 0), (2, 0), (2, 69), (0, (i2 + 6))]) ⟨Or.inr rfl, Or.inr rfl, Or.inr rfl, Or.inr rfl, trivial⟩ (ihlp18_4 ((i2 + 6)) m99 hIm99 hFm99   (by omega) (by omega) (by assumption) (by assumption) (by omega))
        by_cases h105 : x9 = 4
        · refine zw_111 (t := 378) zr_0_33 (by rw [h105]; rfl) ?_
          refine zw_7 zr_0_378 rfl ?_
          refine zw_7s zr_0_379 rfl ?_
          refine zw_3 zr_0_380 rfl ?_
          refine zw_push zr_0_381 ?_
          refine zw_16 zr_0_382 (by omega) ?_
          refine zw_100 zr_0_383 rfl (by omega) (by omega) ?_
          intro x106 ex106 hx106a hx106b
          refine zw_7s zr_0_384 rfl ?_
          refine zw_3 zr_0_385 rfl ?_
          refine zw_push zr_0_386 ?_
          refine zw_16 zr_0_387 (by omega) ?_
          refine zw_100 zr_0_388 rfl (by omega) (by omega) ?_
          intro x107 ex107 hx107a hx107b
          refine zw_C zr_0_389 (Or.inl rfl) zm_106 rfl rfl ⟨Nat.le_of_ble_eq_true rfl, Nat.le_of_ble_eq_true rfl, Nat.le_of_ble_eq_true rfl, rfl, by decide⟩ (by omega) (th_106 (d := d - 1) (by omega) hIm3 (a0 := x106) (a1 := x107)   (F10 := m3 10) (F11 := m3 11)  rfl rfl (by omega) (by omega) ) ?_
          rintro _ m108 ⟨r109, rfl, hr109a, hr109b, hIm108, gm108, po0_r109, po1_r109, po2_r109⟩
          have hFm108 : zFr W_0 m0 m108 := hFm3.trans gm108 rfl
          show zW E (d) 0 392 [(6, 0), (2, 0), (2, 69), (0, i2)] [(0, r109)] m108 Q
          refine zw_115 zr_0_392 rfl ?_
          refine zw_7 zr_0_393 rfl ?_
          refine zw_7s zr_0_394 rfl ?_
          refine zw_3 zr_0_395 rfl ?_
          refine zw_push zr_0_396 ?_
          refine zw_16 zr_0_397 (by omega) ?_
          refine zw_100k zr_0_398 rfl (by omega) (by omega) ex106.symm ?_
          refine zw_7s zr_0_399 rfl ?_
          refine zw_3 zr_0_400 rfl ?_
          refine zw_push zr_0_401 ?_
          refine zw_16 zr_0_402 (by omega) ?_
          refine zw_100k zr_0_403 rfl (by omega) (by omega) ex107.symm ?_
          refine zw_C zr_0_404 (Or.inl rfl) zm_150 rfl rfl ⟨Nat.le_of_ble_eq_true rfl, Nat.le_of_ble_eq_true rfl, Nat.le_of_ble_eq_true rfl, rfl, by decide⟩ (by omega) (th_150 (d := d - 1) (by omega) hIm108 (a0 := x106) (a1 := x107)   (F70 := m108 70)  rfl (by omega) (by omega) ) ?_
          rintro _ m110 ⟨r111, rfl, hr111a, hr111b, hIm110, gm110, po0_r111, po1_r111⟩
          have hFm110 : zFr W_0 m0 m110 := hFm108.trans gm110 rfl
          show zW E (d) 0 407 [(6, 0), (2, 0), (2, 69), (0, i2)] [(0, r111)] m110 Q
          obtain ⟨hkz112, hrz112⟩ := zk_write hIm3 hv0lp18_4 gm108 po0_r109 po1_r109 po2_r109 gm110 po0_r111 po1_r111
          have hfz113_0 := zfr_fr hv1lp18_4 gm108
          have hfz113_1 := zfr_fr hfz113_0 gm110
          refine zw_115 zr_0_407 rfl ?_
          refine zw_42 zr_0_408 ?_
          refine zw_15 (c := 6) (L' := [(6, 0), (2, 0), (2, 69), (0, (i2 + 6))]) zr_0_1239 rfl (by decide) (by omega) rfl ?_
          refine zw_42 zr_0_1242 ?_
          exact zw_less (L := [(6, 0), (2, 0), (2, 69), (0, (i2 + 6))]) ⟨Or.inr rfl, Or.inr rfl, Or.inr rfl, Or.inr rfl, trivial⟩ (ihlp18_4 ((i2 + 6)) m110 hIm110 hFm110   (by omega) (by omega) (by assumption) (by assumption) (by omega))
        by_cases h116 : x9 = 5
        · refine zw_111 (t := 411) zr_0_33 (by rw [h116]; rfl) ?_
          refine zw_7 zr_0_411 rfl ?_
          refine zw_7s zr_0_412 rfl ?_
          refine zw_3 zr_0_413 rfl ?_
          refine zw_push zr_0_414 ?_
          refine zw_16 zr_0_415 (by omega) ?_
          refine zw_100 zr_0_416 rfl (by omega) (by omega) ?_
          intro x117 ex117 hx117a hx117b
          refine zw_C zr_0_417 (Or.inl rfl) zm_107 rfl rfl ⟨Nat.le_of_ble_eq_true rfl, Nat.le_of_ble_eq_true rfl, Nat.le_of_ble_eq_true rfl, rfl, by decide⟩ (by omega) (th_107 (d := d - 1) (by omega) hIm3 (a0 := x117)   (F10 := m3 10)  rfl (by omega) ) ?_
          rintro _ m118 ⟨r119, rfl, hr119a, hr119b, hIm118, gm118, po0_r119, po1_r119⟩
          have hFm118 : zFr W_0 m0 m118 := hFm3.trans gm118 rfl
          show zW E (d) 0 420 [(6, 0), (2, 0), (2, 69), (0, i2)] [(0, r119)] m118 Q
          refine zw_115 zr_0_420 rfl ?_
          refine zw_7 zr_0_421 rfl ?_
          refine zw_7s zr_0_422 rfl ?_
          refine zw_3 zr_0_423 rfl ?_
          refine zw_push zr_0_424 ?_
          refine zw_16 zr_0_425 (by omega) ?_
          refine zw_100k zr_0_426 rfl (by omega) (by omega) ex117.symm ?_
          refine zw_C zr_0_427 (Or.inl rfl) zm_151 rfl rfl ⟨Nat.le_of_ble_eq_true rfl, Nat.le_of_ble_eq_true rfl, Nat.le_of_ble_eq_true rfl, rfl, by decide⟩ (by omega) (th_151 (d := d - 1) (by omega) hIm118 (a0 := x117)   (F70 := m118 70)  rfl (by omega) ) ?_
          rintro _ m120 ⟨r121, rfl, hr121a, hr121b, hIm120, gm120, po0_r121, po1_r121⟩
          have hFm120 : zFr W_0 m0 m120 := hFm118.trans gm120 rfl
          show zW E (d) 0 430 [(6, 0), (2, 0), (2, 69), (0, i2)] [(0, r121)] m120 Q
          obtain ⟨hkz122, hrz122⟩ := zk_erase hIm3 hv0lp18_4 gm118 po0_r119 po1_r119 gm120 po0_r121 po1_r121
          have hfz123_0 := zfr_fr hv1lp18_4 gm118
          have hfz123_1 := zfr_fr hfz123_0 gm120
          refine zw_115 zr_0_430 rfl ?_
          refine zw_42 zr_0_431 ?_
          refine zw_15 (c := 6) (L' := [(6, 0), (2, 0), (2, 69), (0, (i2 + 6))]) zr_0_1239 rfl (by decide) (by omega) rfl ?_
          refine zw_42 zr_0_1242 ?_
          exact zw_less (L := [(6, 0), (2, 0), (2, 69), (0, (i2 + 6))]) ⟨Or.inr rfl, Or.inr rfl, Or.inr rfl, Or.inr rfl, trivial⟩ (ihlp18_4 ((i2 + 6)) m120 hIm120 hFm120   (by omega) (by omega) (by assumption) (by assumption) (by omega))
        by_cases h126 : x9 = 6
        · refine zw_111 (t := 434) zr_0_33 (by rw [h126]; rfl) ?_
          refine zw_7 zr_0_434 rfl ?_
          refine zw_7s zr_0_435 rfl ?_
          refine zw_3 zr_0_436 rfl ?_
          refine zw_push zr_0_437 ?_
          refine zw_16 zr_0_438 (by omega) ?_
          refine zw_100 zr_0_439 rfl (by omega) (by omega) ?_
          intro x127 ex127 hx127a hx127b
          refine zw_C zr_0_440 (Or.inl rfl) zm_108 rfl rfl ⟨Nat.le_of_ble_eq_true rfl, Nat.le_of_ble_eq_true rfl, Nat.le_of_ble_eq_true rfl, rfl, by decide⟩ (by omega) (th_108 (d := d - 1) (by omega) hIm3 (a0 := x127)   (F10 := m3 10) (F11 := m3 11)  rfl rfl (by omega) ) ?_
          rintro _ m128 ⟨r129, rfl, hr129a, hr129b, hIm128, gm128, po0_r129⟩
          have hFm128 : zFr W_0 m0 m128 := hFm3.trans gm128 rfl
          show zW E (d) 0 443 [(6, 0), (2, 0), (2, 69), (0, i2)] [(0, r129)] m128 Q
          refine zw_115 zr_0_443 rfl ?_
          refine zw_7 zr_0_444 rfl ?_
          refine zw_7s zr_0_445 rfl ?_
          refine zw_3 zr_0_446 rfl ?_
          refine zw_push zr_0_447 ?_
          refine zw_16 zr_0_448 (by omega) ?_
          refine zw_100k zr_0_449 rfl (by omega) (by omega) ex127.symm ?_
          refine zw_C zr_0_450 (Or.inl rfl) zm_163 rfl rfl ⟨Nat.le_of_ble_eq_true rfl, Nat.le_of_ble_eq_true rfl, Nat.le_of_ble_eq_true rfl, rfl, by decide⟩ (by omega) (th_163 (d := d - 1) (by omega) hIm128 (a0 := x127)   (F70 := m128 70)  rfl (by omega) ) ?_
          rintro _ m130 ⟨r131, rfl, hr131a, hr131b, hIm130, gm130, po0_r131⟩
          have hFm130 : zFr W_0 m0 m130 := hFm128.trans gm130 rfl
          show zW E (d) 0 453 [(6, 0), (2, 0), (2, 69), (0, i2)] [(0, r131)] m130 Q
          have hkz132_0 := zk_fr hv0lp18_4 gm128
          have hkz132_1 := zk_fr hkz132_0 gm130
          have hqz133 := zq_fault hIm3 hv0lp18_4 gm128 po0_r129 po0_r131
          have hfz134_0 := zfr_fr hv1lp18_4 gm128
          have hfz134_1 := zfr_fr hfz134_0 gm130
          clear po0_r129 po0_r131
          refine zw_115 zr_0_453 rfl ?_
          refine zw_42 zr_0_454 ?_
          refine zw_15 (c := 6) (L' := [(6, 0), (2, 0), (2, 69), (0, (i2 + 6))]) zr_0_1239 rfl (by decide) (by omega) rfl ?_
          refine zw_42 zr_0_1242 ?_
          exact zw_less (L := [(6, 0), (2, 0), (2, 69), (0, (i2 + 6))]) ⟨Or.inr rfl, Or.inr rfl, Or.inr rfl, Or.inr rfl, trivial⟩ (ihlp18_4 ((i2 + 6)) m130 hIm130 hFm130   (by omega) (by omega) (by assumption) (by assumption) (by omega))
        by_cases h137 : x9 = 7
        · refine zw_111 (t := 457) zr_0_33 (by rw [h137]; rfl) ?_
          refine zw_7 zr_0_457 rfl ?_
          refine zw_7s zr_0_458 rfl ?_
          refine zw_3 zr_0_459 rfl ?_
          refine zw_push zr_0_460 ?_
          refine zw_16 zr_0_461 (by omega) ?_
          refine zw_100 zr_0_462 rfl (by omega) (by omega) ?_
          intro x138 ex138 hx138a hx138b
          refine zw_7s zr_0_463 rfl ?_
          refine zw_3 zr_0_464 rfl ?_
          refine zw_push zr_0_465 ?_
          refine zw_16 zr_0_466 (by omega) ?_
          refine zw_100 zr_0_467 rfl (by omega) (by omega) ?_
          intro x139 ex139 hx139a hx139b
          refine zw_7s zr_0_468 rfl ?_
          refine zw_3 zr_0_469 rfl ?_
          refine zw_push zr_0_470 ?_
          refine zw_16 zr_0_471 (by omega) ?_
          refine zw_100 zr_0_472 rfl (by omega) (by omega) ?_
          intro x140 ex140 hx140a hx140b
          obtain ⟨f141, ef141⟩ : ∃ v, m3 1 0 = v := ⟨_, rfl⟩
          have bf141 := ib_1_0 hIm3
          rw [ef141] at bf141
          obtain ⟨f142, ef142⟩ : ∃ v, m3 1 1 = v := ⟨_, rfl⟩
          have bf142 := ib_1_1 hIm3
          rw [ef142] at bf142
          obtain ⟨f143, ef143⟩ : ∃ v, m3 1 2 = v := ⟨_, rfl⟩
          have bf143 := ib_1_2 hIm3
          rw [ef143] at bf143
          refine zw_C zr_0_473 (Or.inl rfl) zm_109 rfl rfl ⟨Nat.le_of_ble_eq_true rfl, Nat.le_of_ble_eq_true rfl, Nat.le_of_ble_eq_true rfl, rfl, by decide⟩ (by omega) (th_109 (d := d - 1) (by omega) hIm3 (a0 := x138) (a1 := x139) (a2 := x140) (g0 := f141) (g1 := f142) (g2 := f143)  (F5 := m3 5) (F6 := m3 6) (F7 := m3 7) (F8 := m3 8) (F10 := m3 10) (F11 := m3 11) (F44 := m3 44) (F48 := m3 48) (F50 := m3 50) (F51 := m3 51) (F9 := m3 9) ef141 ef142 ef143 rfl rfl rfl rfl rfl rfl rfl rfl rfl rfl rfl (by omega) (by omega) (by omega) ) ?_
          rintro _ m144 ⟨r145, rfl, hr145a, hr145b, hIm144, gm144, po0_r145⟩
          have hFm144 : zFr W_0 m0 m144 := hFm3.trans gm144 rfl
          have km144_1_0 : m144 1 0 = f141 := (gm144 1 0 rfl).trans ef141
          have km144_1_1 : m144 1 1 = f142 := (gm144 1 1 rfl).trans ef142
          have km144_1_2 : m144 1 2 = f143 := (gm144 1 2 rfl).trans ef143
          show zW E (d) 0 476 [(6, 0), (2, 0), (2, 69), (0, i2)] [(0, r145)] m144 Q
          refine zw_115 zr_0_476 rfl ?_
          refine zw_7 zr_0_477 rfl ?_
          refine zw_7s zr_0_478 rfl ?_
          refine zw_3 zr_0_479 rfl ?_
          refine zw_push zr_0_480 ?_
          refine zw_16 zr_0_481 (by omega) ?_
          refine zw_100k zr_0_482 rfl (by omega) (by omega) ex138.symm ?_
          refine zw_7s zr_0_483 rfl ?_
          refine zw_3 zr_0_484 rfl ?_
          refine zw_push zr_0_485 ?_
          refine zw_16 zr_0_486 (by omega) ?_
          refine zw_100k zr_0_487 rfl (by omega) (by omega) ex139.symm ?_
          refine zw_7s zr_0_488 rfl ?_
          refine zw_3 zr_0_489 rfl ?_
          refine zw_push zr_0_490 ?_
          refine zw_16 zr_0_491 (by omega) ?_
          refine zw_100k zr_0_492 rfl (by omega) (by omega) ex140.symm ?_
          obtain ⟨f146, ef146⟩ : ∃ v, m144 70 822 = v := ⟨_, rfl⟩
          have bf146 : 0 ≤ m144 70 822 ∧ m144 70 822 ≤ 10 := ib_70_players hIm144 (by omega)
          rw [ef146] at bf146
          obtain ⟨f147, ef147⟩ : ∃ v, m144 70 823 = v := ⟨_, rfl⟩
          have bf147 : 0 ≤ m144 70 823 ∧ m144 70 823 ≤ 60 := ib_70_meetings hIm144 (by omega)
          rw [ef147] at bf147
          refine zw_C zr_0_493 (Or.inl rfl) zm_168 rfl rfl ⟨Nat.le_of_ble_eq_true rfl, Nat.le_of_ble_eq_true rfl, Nat.le_of_ble_eq_true rfl, rfl, by decide⟩ (by omega) (th_168 (d := d - 1) (by omega) hIm144 (a0 := x138) (a1 := x139) (a2 := x140) (g0 := f146) (g1 := f147)  (F70 := m144 70) (F76 := m144 76) (F77 := m144 77) (F78 := m144 78) ef146 ef147 rfl rfl rfl rfl (by omega) (by omega) (by omega) ) ?_
          rintro _ m148 ⟨r149, rfl, hr149a, hr149b, hIm148, gm148, po0_r149⟩
          have hFm148 : zFr W_0 m0 m148 := hFm144.trans gm148 rfl
          have km148_1_0 : m148 1 0 = f141 := (gm148 1 0 rfl).trans km144_1_0
          have km148_1_1 : m148 1 1 = f142 := (gm148 1 1 rfl).trans km144_1_1
          have km148_1_2 : m148 1 2 = f143 := (gm148 1 2 rfl).trans km144_1_2
          have km148_70_822 : m148 70 822 = f146 := (gm148 70 822 rfl).trans ef146
          have km148_70_823 : m148 70 823 = f147 := (gm148 70 823 rfl).trans ef147
          show zW E (d) 0 496 [(6, 0), (2, 0), (2, 69), (0, i2)] [(0, r149)] m148 Q
          have hkz150_0 := zk_fr hv0lp18_4 gm144
          have hkz150_1 := zk_fr hkz150_0 gm148
          have hqz151 := zq_number hIm3 hv0lp18_4 gm144 ef141 ef142 ef143 po0_r145 ef146 ef147 po0_r149
          have hfz152_0 := zfr_fr hv1lp18_4 gm144
          have hfz152_1 := zfr_fr hfz152_0 gm148
          clear po0_r145 po0_r149
          refine zw_115 zr_0_496 rfl ?_
          refine zw_42 zr_0_497 ?_
          refine zw_15 (c := 6) (L' := [(6, 0), (2, 0), (2, 69), (0, (i2 + 6))]) zr_0_1239 rfl (by decide) (by omega) rfl ?_
          refine zw_42 zr_0_1242 ?_
          exact zw_less (L := [(6, 0), (2, 0), (2, 69), (0, (i2 + 6))]) ⟨Or.inr rfl, Or.inr rfl, Or.inr rfl, Or.inr rfl, trivial⟩ (ihlp18_4 ((i2 + 6)) m148 hIm148 hFm148   (by omega) (by omega) (by assumption) (by assumption) (by omega))
        by_cases h155 : x9 = 8
        · refine zw_111 (t := 500) zr_0_33 (by rw [h155]; rfl) ?_
          refine zw_7 zr_0_500 rfl ?_
          refine zw_7s zr_0_501 rfl ?_
          refine zw_3 zr_0_502 rfl ?_
          refine zw_push zr_0_503 ?_
          refine zw_16 zr_0_504 (by omega) ?_
          refine zw_100 zr_0_505 rfl (by omega) (by omega) ?_
          intro x156 ex156 hx156a hx156b
          refine zw_7s zr_0_506 rfl ?_
          refine zw_3 zr_0_507 rfl ?_
          refine zw_push zr_0_508 ?_
          refine zw_16 zr_0_509 (by omega) ?_
          refine zw_100 zr_0_510 rfl (by omega) (by omega) ?_
          intro x157 ex157 hx157a hx157b
          obtain ⟨f158, ef158⟩ : ∃ v, m3 1 1 = v := ⟨_, rfl⟩
          have bf158 := ib_1_1 hIm3
          rw [ef158] at bf158
          obtain ⟨f159, ef159⟩ : ∃ v, m3 1 2 = v := ⟨_, rfl⟩
          have bf159 := ib_1_2 hIm3
          rw [ef159] at bf159
          refine zw_C zr_0_511 (Or.inl rfl) zm_110 rfl rfl ⟨Nat.le_of_ble_eq_true rfl, Nat.le_of_ble_eq_true rfl, Nat.le_of_ble_eq_true rfl, rfl, by decide⟩ (by omega) (th_110 (d := d - 1) (by omega) hIm3 (a0 := x156) (a1 := x157) (g0 := f158) (g1 := f159)  (F5 := m3 5) (F6 := m3 6) (F7 := m3 7) (F8 := m3 8) (F10 := m3 10) (F11 := m3 11) (F44 := m3 44) (F48 := m3 48) (F50 := m3 50) (F51 := m3 51) (F9 := m3 9) ef158 ef159 rfl rfl rfl rfl rfl rfl rfl rfl rfl rfl rfl (by omega) (by omega) ) ?_
          rintro _ m160 ⟨r161, rfl, hr161a, hr161b, hIm160, gm160, po0_r161⟩
          have hFm160 : zFr W_0 m0 m160 := hFm3.trans gm160 rfl
          have km160_1_1 : m160 1 1 = f158 := (gm160 1 1 rfl).trans ef158
          have km160_1_2 : m160 1 2 = f159 := (gm160 1 2 rfl).trans ef159
          show zW E (d) 0 514 [(6, 0), (2, 0), (2, 69), (0, i2)] [(0, r161)] m160 Q
          refine zw_115 zr_0_514 rfl ?_
          refine zw_7 zr_0_515 rfl ?_
          refine zw_7s zr_0_516 rfl ?_
          refine zw_3 zr_0_517 rfl ?_
          refine zw_push zr_0_518 ?_
          refine zw_16 zr_0_519 (by omega) ?_
          refine zw_100k zr_0_520 rfl (by omega) (by omega) ex156.symm ?_
          refine zw_7s zr_0_521 rfl ?_
          refine zw_3 zr_0_522 rfl ?_
          refine zw_push zr_0_523 ?_
          refine zw_16 zr_0_524 (by omega) ?_
          refine zw_100k zr_0_525 rfl (by omega) (by omega) ex157.symm ?_
          obtain ⟨f162, ef162⟩ : ∃ v, m160 70 823 = v := ⟨_, rfl⟩
          have bf162 : 0 ≤ m160 70 823 ∧ m160 70 823 ≤ 60 := ib_70_meetings hIm160 (by omega)
          rw [ef162] at bf162
          refine zw_C zr_0_526 (Or.inl rfl) zm_170 rfl rfl ⟨Nat.le_of_ble_eq_true rfl, Nat.le_of_ble_eq_true rfl, Nat.le_of_ble_eq_true rfl, rfl, by decide⟩ (by omega) (th_170 (d := d - 1) (by omega) hIm160 (a0 := x156) (a1 := x157) (g0 := f162)  (F70 := m160 70) (F76 := m160 76) (F77 := m160 77) (F78 := m160 78) ef162 rfl rfl rfl rfl (by omega) (by omega) ) ?_
          rintro _ m163 ⟨r164, rfl, hr164a, hr164b, hIm163, gm163, po0_r164⟩
          have hFm163 : zFr W_0 m0 m163 := hFm160.trans gm163 rfl
          have km163_1_1 : m163 1 1 = f158 := (gm163 1 1 rfl).trans km160_1_1
          have km163_1_2 : m163 1 2 = f159 := (gm163 1 2 rfl).trans km160_1_2
          have km163_70_823 : m163 70 823 = f162 := (gm163 70 823 rfl).trans ef162
          show zW E (d) 0 529 [(6, 0), (2, 0), (2, 69), (0, i2)] [(0, r164)] m163 Q
          have hkz165_0 := zk_fr hv0lp18_4 gm160
          have hkz165_1 := zk_fr hkz165_0 gm163
          have hqz166 := zq_paid hIm3 hv0lp18_4 gm160 ef158 ef159 po0_r161 ef162 po0_r164
          have hfz167_0 := zfr_fr hv1lp18_4 gm160
          have hfz167_1 := zfr_fr hfz167_0 gm163
          clear po0_r161 po0_r164
          refine zw_115 zr_0_529 rfl ?_
          refine zw_42 zr_0_530 ?_
          refine zw_15 (c := 6) (L' := [(6, 0), (2, 0), (2, 69), (0, (i2 + 6))]) zr_0_1239 rfl (by decide) (by omega) rfl ?_
          refine zw_42 zr_0_1242 ?_
          exact zw_less (L := [(6, 0), (2, 0), (2, 69), (0, (i2 + 6))]) ⟨Or.inr rfl, Or.inr rfl, Or.inr rfl, Or.inr rfl, trivial⟩ (ihlp18_4 ((i2 + 6)) m163 hIm163 hFm163   (by omega) (by omega) (by assumption) (by assumption) (by omega))
        by_cases h170 : x9 = 9
        · refine zw_111 (t := 533) zr_0_33 (by rw [h170]; rfl) ?_
          refine zw_7 zr_0_533 rfl ?_
          refine zw_7s zr_0_534 rfl ?_
          refine zw_3 zr_0_535 rfl ?_
          refine zw_push zr_0_536 ?_
          refine zw_16 zr_0_537 (by omega) ?_
          refine zw_100 zr_0_538 rfl (by omega) (by omega) ?_
          intro x171 ex171 hx171a hx171b
          refine zw_7s zr_0_539 rfl ?_
          refine zw_3 zr_0_540 rfl ?_
          refine zw_push zr_0_541 ?_
          refine zw_16 zr_0_542 (by omega) ?_
          refine zw_100 zr_0_543 rfl (by omega) (by omega) ?_
          intro x172 ex172 hx172a hx172b
          refine zw_7s zr_0_544 rfl ?_
          refine zw_3 zr_0_545 rfl ?_
          refine zw_push zr_0_546 ?_
          refine zw_16 zr_0_547 (by omega) ?_
          refine zw_100 zr_0_548 rfl (by omega) (by omega) ?_
          intro x173 ex173 hx173a hx173b
          obtain ⟨f174, ef174⟩ : ∃ v, m3 1 0 = v := ⟨_, rfl⟩
          have bf174 := ib_1_0 hIm3
          rw [ef174] at bf174
          obtain ⟨f175, ef175⟩ : ∃ v, m3 1 1 = v := ⟨_, rfl⟩
          have bf175 := ib_1_1 hIm3
          rw [ef175] at bf175
          obtain ⟨f176, ef176⟩ : ∃ v, m3 1 2 = v := ⟨_, rfl⟩
          have bf176 := ib_1_2 hIm3
          rw [ef176] at bf176
          obtain ⟨f177, ef177⟩ : ∃ v, m3 42 0 = v := ⟨_, rfl⟩
          have bf177 := hIm3.fl (c := 42) (k := 0) rfl
          rw [ef177] at bf177
          obtain ⟨f178, ef178⟩ : ∃ v, m3 42 1 = v := ⟨_, rfl⟩
          have bf178 := hIm3.fl (c := 42) (k := 1) rfl
          rw [ef178] at bf178
          refine zw_C zr_0_549 (Or.inl rfl) zm_111 rfl rfl ⟨Nat.le_of_ble_eq_true rfl, Nat.le_of_ble_eq_true rfl, Nat.le_of_ble_eq_true rfl, rfl, by decide⟩ (by omega) (th_111 (d := d - 1) (by omega) hIm3 (a0 := x171) (a1 := x172) (a2 := x173) (g0 := f174) (g1 := f175) (g2 := f176) (g3 := f177) (g4 := f178)  (F5 := m3 5) (F6 := m3 6) (F7 := m3 7) (F8 := m3 8) (F10 := m3 10) (F11 := m3 11) (F44 := m3 44) (F48 := m3 48) (F50 := m3 50) (F51 := m3 51) (F9 := m3 9) ef174 ef175 ef176 ef177 ef178 rfl rfl rfl rfl rfl rfl rfl rfl rfl rfl rfl (by omega) (by omega) (by omega) (qK_so hv0lp18_4 ef175 (by omega)) (qK_pl hv0lp18_4 ef175 ef174)) ?_
          rintro _ m181 ⟨r182, rfl, hr182a, hr182b, hIm181, gm181, po0_r182, po1_r182⟩
          have hFm181 : zFr W_0 m0 m181 := hFm3.trans gm181 rfl
          have km181_1_0 : m181 1 0 = f174 := (gm181 1 0 rfl).trans ef174
          have km181_1_1 : m181 1 1 = f175 := (gm181 1 1 rfl).trans ef175
          have km181_1_2 : m181 1 2 = f176 := (gm181 1 2 rfl).trans ef176
          show zW E (d) 0 552 [(6, 0), (2, 0), (2, 69), (0, i2)] [(0, r182)] m181 Q
          refine zw_115 zr_0_552 rfl ?_
          refine zw_7 zr_0_553 rfl ?_
          refine zw_7s zr_0_554 rfl ?_
          refine zw_3 zr_0_555 rfl ?_
          refine zw_push zr_0_556 ?_
          refine zw_16 zr_0_557 (by omega) ?_
          refine zw_100k zr_0_558 rfl (by omega) (by omega) ex171.symm ?_
          refine zw_7s zr_0_559 rfl ?_
          refine zw_3 zr_0_560 rfl ?_
          refine zw_push zr_0_561 ?_
          refine zw_16 zr_0_562 (by omega) ?_
          refine zw_100k zr_0_563 rfl (by omega) (by omega) ex172.symm ?_
          refine zw_7s zr_0_564 rfl ?_
          refine zw_3 zr_0_565 rfl ?_
          refine zw_push zr_0_566 ?_
          refine zw_16 zr_0_567 (by omega) ?_
          refine zw_100k zr_0_568 rfl (by omega) (by omega) ex173.symm ?_
          obtain ⟨f183, ef183⟩ : ∃ v, m181 70 822 = v := ⟨_, rfl⟩
          have bf183 : 0 ≤ m181 70 822 ∧ m181 70 822 ≤ 10 := ib_70_players hIm181 (by omega)
          rw [ef183] at bf183
          obtain ⟨f184, ef184⟩ : ∃ v, m181 70 823 = v := ⟨_, rfl⟩
          have bf184 : 0 ≤ m181 70 823 ∧ m181 70 823 ≤ 60 := ib_70_meetings hIm181 (by omega)
          rw [ef184] at bf184
          obtain ⟨f185, ef185⟩ : ∃ v, m181 69 3 = v := ⟨_, rfl⟩
          have bf185 := hIm181.fl (c := 69) (k := 3) rfl
          rw [ef185] at bf185
          obtain ⟨f186, ef186⟩ : ∃ v, m181 69 4 = v := ⟨_, rfl⟩
          have bf186 := hIm181.fl (c := 69) (k := 4) rfl
          rw [ef186] at bf186
          refine zw_C zr_0_569 (Or.inl rfl) zm_174 rfl rfl ⟨Nat.le_of_ble_eq_true rfl, Nat.le_of_ble_eq_true rfl, Nat.le_of_ble_eq_true rfl, rfl, by decide⟩ (by omega) (th_174 (d := d - 1) (by omega) hIm181 (a0 := x171) (a1 := x172) (a2 := x173) (g0 := f183) (g1 := f184) (g2 := f185) (g3 := f186)  (F70 := m181 70) (F76 := m181 76) (F77 := m181 77) (F78 := m181 78) (F79 := m181 79) ef183 ef184 ef185 ef186 rfl rfl rfl rfl rfl (by omega) (by omega) (by omega) (qK_sr (zk_fr hv0lp18_4 gm181) ef184 (by omega))) ?_
          rintro _ m188 ⟨r189, rfl, hr189a, hr189b, hIm188, gm188, po0_r189, po1_r189⟩
          have hFm188 : zFr W_0 m0 m188 := hFm181.trans gm188 rfl
          have km188_1_0 : m188 1 0 = f174 := (gm188 1 0 rfl).trans km181_1_0
          have km188_1_1 : m188 1 1 = f175 := (gm188 1 1 rfl).trans km181_1_1
          have km188_1_2 : m188 1 2 = f176 := (gm188 1 2 rfl).trans km181_1_2
          have km188_70_822 : m188 70 822 = f183 := (gm188 70 822 rfl).trans ef183
          have km188_70_823 : m188 70 823 = f184 := (gm188 70 823 rfl).trans ef184
          show zW E (d) 0 572 [(6, 0), (2, 0), (2, 69), (0, i2)] [(0, r189)] m188 Q
          have hkz190_0 := zk_fr hv0lp18_4 gm181
          have hkz190_1 := zk_fr hkz190_0 gm188
          have hqz191 := zq_creep hIm3 hv0lp18_4 gm181 ef174 ef175 ef176 ef177 ef178 po0_r182 po1_r182 ef183 ef184 ef185 ef186 po0_r189 po1_r189
          have hfz192 := zfr_2 (zf_creep hIm3 hv0lp18_4 hv1lp18_4 gm181 ef174 ef175 ef176 ef177 ef178 po0_r182 po1_r182 ef183 ef184 ef185 ef186 po0_r189 po1_r189) gm188
          clear po1_r182 po1_r189
          refine zw_115 zr_0_572 rfl ?_
          refine zw_42 zr_0_573 ?_
          refine zw_15 (c := 6) (L' := [(6, 0), (2, 0), (2, 69), (0, (i2 + 6))]) zr_0_1239 rfl (by decide) (by omega) rfl ?_
          refine zw_42 zr_0_1242 ?_
          exact zw_less (L := [(6, 0), (2, 0), (2, 69), (0, (i2 + 6))]) ⟨Or.inr rfl, Or.inr rfl, Or.inr rfl, Or.inr rfl, trivial⟩ (ihlp18_4 ((i2 + 6)) m188 hIm188 hFm188   (by omega) (by omega) (by assumption) (by assumption) (by omega))
        by_cases h195 : x9 = 10
        · refine zw_111 (t := 576) zr_0_33 (by rw [h195]; rfl) ?_
          refine zw_7 zr_0_576 rfl ?_
          refine zw_7s zr_0_577 rfl ?_
          refine zw_3 zr_0_578 rfl ?_
          refine zw_push zr_0_579 ?_
          refine zw_16 zr_0_580 (by omega) ?_
          refine zw_100 zr_0_581 rfl (by omega) (by omega) ?_
          intro x196 ex196 hx196a hx196b
          refine zw_7s zr_0_582 rfl ?_
          refine zw_3 zr_0_583 rfl ?_
          refine zw_push zr_0_584 ?_
          refine zw_16 zr_0_585 (by omega) ?_
          refine zw_100 zr_0_586 rfl (by omega) (by omega) ?_
          intro x197 ex197 hx197a hx197b
          refine zw_7s zr_0_587 rfl ?_
          refine zw_3 zr_0_588 rfl ?_
          refine zw_push zr_0_589 ?_
          refine zw_16 zr_0_590 (by omega) ?_
          refine zw_100 zr_0_591 rfl (by omega) (by omega) ?_
          intro x198 ex198 hx198a hx198b
          obtain ⟨f199, ef199⟩ : ∃ v, m3 1 0 = v := ⟨_, rfl⟩
          have bf199 := ib_1_0 hIm3
          rw [ef199] at bf199
          obtain ⟨f200, ef200⟩ : ∃ v, m3 1 1 = v := ⟨_, rfl⟩
          have bf200 := ib_1_1 hIm3
          rw [ef200] at bf200
          obtain ⟨f201, ef201⟩ : ∃ v, m3 1 2 = v := ⟨_, rfl⟩
          have bf201 := ib_1_2 hIm3
          rw [ef201] at bf201
          refine zw_C zr_0_592 (Or.inl rfl) zm_112 rfl rfl ⟨Nat.le_of_ble_eq_true rfl, Nat.le_of_ble_eq_true rfl, Nat.le_of_ble_eq_true rfl, rfl, by decide⟩ (by omega) (th_112 (d := d - 1) (by omega) hIm3 (a0 := x196) (a1 := x197) (a2 := x198) (g0 := f199) (g1 := f200) (g2 := f201)  (F5 := m3 5) (F6 := m3 6) (F7 := m3 7) (F8 := m3 8) (F10 := m3 10) (F11 := m3 11) (F44 := m3 44) (F48 := m3 48) (F50 := m3 50) (F51 := m3 51) (F9 := m3 9) ef199 ef200 ef201 rfl rfl rfl rfl rfl rfl rfl rfl rfl rfl rfl (by omega) (by omega) (by omega) ) ?_
          rintro _ m202 ⟨r203, rfl, hr203a, hr203b, hIm202, gm202, po0_r203⟩
          have hFm202 : zFr W_0 m0 m202 := hFm3.trans gm202 rfl
          have km202_1_0 : m202 1 0 = f199 := (gm202 1 0 rfl).trans ef199
          have km202_1_1 : m202 1 1 = f200 := (gm202 1 1 rfl).trans ef200
          have km202_1_2 : m202 1 2 = f201 := (gm202 1 2 rfl).trans ef201
          show zW E (d) 0 595 [(6, 0), (2, 0), (2, 69), (0, i2)] [(0, r203)] m202 Q
          refine zw_115 zr_0_595 rfl ?_
          refine zw_7 zr_0_596 rfl ?_
          refine zw_7s zr_0_597 rfl ?_
          refine zw_3 zr_0_598 rfl ?_
          refine zw_push zr_0_599 ?_
          refine zw_16 zr_0_600 (by omega) ?_
          refine zw_100k zr_0_601 rfl (by omega) (by omega) ex196.symm ?_
          refine zw_7s zr_0_602 rfl ?_
          refine zw_3 zr_0_603 rfl ?_
          refine zw_push zr_0_604 ?_
          refine zw_16 zr_0_605 (by omega) ?_
          refine zw_100k zr_0_606 rfl (by omega) (by omega) ex197.symm ?_
          refine zw_7s zr_0_607 rfl ?_
          refine zw_3 zr_0_608 rfl ?_
          refine zw_push zr_0_609 ?_
          refine zw_16 zr_0_610 (by omega) ?_
          refine zw_100k zr_0_611 rfl (by omega) (by omega) ex198.symm ?_
          obtain ⟨f204, ef204⟩ : ∃ v, m202 70 822 = v := ⟨_, rfl⟩
          have bf204 : 0 ≤ m202 70 822 ∧ m202 70 822 ≤ 10 := ib_70_players hIm202 (by omega)
          rw [ef204] at bf204
          obtain ⟨f205, ef205⟩ : ∃ v, m202 70 823 = v := ⟨_, rfl⟩
          have bf205 : 0 ≤ m202 70 823 ∧ m202 70 823 ≤ 60 := ib_70_meetings hIm202 (by omega)
          rw [ef205] at bf205
          refine zw_C zr_0_612 (Or.inl rfl) zm_175 rfl rfl ⟨Nat.le_of_ble_eq_true rfl, Nat.le_of_ble_eq_true rfl, Nat.le_of_ble_eq_true rfl, rfl, by decide⟩ (by omega) (th_175 (d := d - 1) (by omega) hIm202 (a0 := x196) (a1 := x197) (a2 := x198) (g0 := f204) (g1 := f205)  (F70 := m202 70) (F76 := m202 76) (F77 := m202 77) (F78 := m202 78) ef204 ef205 rfl rfl rfl rfl (by omega) (by omega) (by omega) ) ?_
          rintro _ m206 ⟨r207, rfl, hr207a, hr207b, hIm206, gm206, po0_r207⟩
          have hFm206 : zFr W_0 m0 m206 := hFm202.trans gm206 rfl
          have km206_1_0 : m206 1 0 = f199 := (gm206 1 0 rfl).trans km202_1_0
          have km206_1_1 : m206 1 1 = f200 := (gm206 1 1 rfl).trans km202_1_1
          have km206_1_2 : m206 1 2 = f201 := (gm206 1 2 rfl).trans km202_1_2
          have km206_70_822 : m206 70 822 = f204 := (gm206 70 822 rfl).trans ef204
          have km206_70_823 : m206 70 823 = f205 := (gm206 70 823 rfl).trans ef205
          show zW E (d) 0 615 [(6, 0), (2, 0), (2, 69), (0, i2)] [(0, r207)] m206 Q
          have hkz208_0 := zk_fr hv0lp18_4 gm202
          have hkz208_1 := zk_fr hkz208_0 gm206
          have hqz209 := zq_hiding hIm3 hv0lp18_4 gm202 ef199 ef200 ef201 po0_r203 ef204 ef205 po0_r207
          have hfz210_0 := zfr_fr hv1lp18_4 gm202
          have hfz210_1 := zfr_fr hfz210_0 gm206
          clear po0_r203 po0_r207
          refine zw_115 zr_0_615 rfl ?_
          refine zw_42 zr_0_616 ?_
          refine zw_15 (c := 6) (L' := [(6, 0), (2, 0), (2, 69), (0, (i2 + 6))]) zr_0_1239 rfl (by decide) (by omega) rfl ?_
          refine zw_42 zr_0_1242 ?_
          exact zw_less (L := [(6, 0), (2, 0), (2, 69), (0, (i2 + 6))]) ⟨Or.inr rfl, Or.inr rfl, Or.inr rfl, Or.inr rfl, trivial⟩ (ihlp18_4 ((i2 + 6)) m206 hIm206 hFm206   (by omega) (by omega) (by assumption) (by assumption) (by omega))
        by_cases h213 : x9 = 11
        · refine zw_111 (t := 619) zr_0_33 (by rw [h213]; rfl) ?_
          refine zw_7 zr_0_619 rfl ?_
          refine zw_7s zr_0_620 rfl ?_
          refine zw_3 zr_0_621 rfl ?_
          refine zw_push zr_0_622 ?_
          refine zw_16 zr_0_623 (by omega) ?_
          refine zw_100 zr_0_624 rfl (by omega) (by omega) ?_
          intro x214 ex214 hx214a hx214b
          obtain ⟨f215, ef215⟩ : ∃ v, m3 1 1 = v := ⟨_, rfl⟩
          have bf215 := ib_1_1 hIm3
          rw [ef215] at bf215
          obtain ⟨f216, ef216⟩ : ∃ v, m3 1 2 = v := ⟨_, rfl⟩
          have bf216 := ib_1_2 hIm3
          rw [ef216] at bf216
          refine zw_C zr_0_625 (Or.inl rfl) zm_113 rfl rfl ⟨Nat.le_of_ble_eq_true rfl, Nat.le_of_ble_eq_true rfl, Nat.le_of_ble_eq_true rfl, rfl, by decide⟩ (by omega) (th_113 (d := d - 1) (by omega) hIm3 (a0 := x214) (g0 := f215) (g1 := f216)  (F5 := m3 5) (F6 := m3 6) (F7 := m3 7) (F8 := m3 8) (F10 := m3 10) (F11 := m3 11) (F44 := m3 44) (F48 := m3 48) (F50 := m3 50) (F51 := m3 51) (F9 := m3 9) ef215 ef216 rfl rfl rfl rfl rfl rfl rfl rfl rfl rfl rfl (by omega) ) ?_
          rintro _ m217 ⟨r218, rfl, hr218a, hr218b, hIm217, gm217, po0_r218⟩
          have hFm217 : zFr W_0 m0 m217 := hFm3.trans gm217 rfl
          have km217_1_1 : m217 1 1 = f215 := (gm217 1 1 rfl).trans ef215
          have km217_1_2 : m217 1 2 = f216 := (gm217 1 2 rfl).trans ef216
          show zW E (d) 0 628 [(6, 0), (2, 0), (2, 69), (0, i2)] [(0, r218)] m217 Q
          refine zw_115 zr_0_628 rfl ?_
          refine zw_7 zr_0_629 rfl ?_
          refine zw_7s zr_0_630 rfl ?_
          refine zw_3 zr_0_631 rfl ?_
          refine zw_push zr_0_632 ?_
          refine zw_16 zr_0_633 (by omega) ?_
          refine zw_100k zr_0_634 rfl (by omega) (by omega) ex214.symm ?_
          obtain ⟨f219, ef219⟩ : ∃ v, m217 70 823 = v := ⟨_, rfl⟩
          have bf219 : 0 ≤ m217 70 823 ∧ m217 70 823 ≤ 60 := ib_70_meetings hIm217 (by omega)
          rw [ef219] at bf219
          refine zw_C zr_0_635 (Or.inl rfl) zm_177 rfl rfl ⟨Nat.le_of_ble_eq_true rfl, Nat.le_of_ble_eq_true rfl, Nat.le_of_ble_eq_true rfl, rfl, by decide⟩ (by omega) (th_177 (d := d - 1) (by omega) hIm217 (a0 := x214) (g0 := f219)  (F70 := m217 70) ef219 rfl (by omega) ) ?_
          rintro _ m220 ⟨r221, rfl, hr221a, hr221b, hIm220, gm220, po0_r221⟩
          have hFm220 : zFr W_0 m0 m220 := hFm217.trans gm220 rfl
          have km220_1_1 : m220 1 1 = f215 := (gm220 1 1 rfl).trans km217_1_1
          have km220_1_2 : m220 1 2 = f216 := (gm220 1 2 rfl).trans km217_1_2
          have km220_70_823 : m220 70 823 = f219 := (gm220 70 823 rfl).trans ef219
          show zW E (d) 0 638 [(6, 0), (2, 0), (2, 69), (0, i2)] [(0, r221)] m220 Q
          have hkz222_0 := zk_fr hv0lp18_4 gm217
          have hkz222_1 := zk_fr hkz222_0 gm220
          have hqz223 := zq_foretold hIm3 hv0lp18_4 gm217 ef215 ef216 po0_r218 ef219 po0_r221
          have hfz224_0 := zfr_fr hv1lp18_4 gm217
          have hfz224_1 := zfr_fr hfz224_0 gm220
          clear po0_r218 po0_r221
          refine zw_115 zr_0_638 rfl ?_
          refine zw_42 zr_0_639 ?_
          refine zw_15 (c := 6) (L' := [(6, 0), (2, 0), (2, 69), (0, (i2 + 6))]) zr_0_1239 rfl (by decide) (by omega) rfl ?_
          refine zw_42 zr_0_1242 ?_
          exact zw_less (L := [(6, 0), (2, 0), (2, 69), (0, (i2 + 6))]) ⟨Or.inr rfl, Or.inr rfl, Or.inr rfl, Or.inr rfl, trivial⟩ (ihlp18_4 ((i2 + 6)) m220 hIm220 hFm220   (by omega) (by omega) (by assumption) (by assumption) (by omega))
        by_cases h227 : x9 = 12
        · refine zw_111 (t := 642) zr_0_33 (by rw [h227]; rfl) ?_
          refine zw_7 zr_0_642 rfl ?_
          obtain ⟨f228, ef228⟩ : ∃ v, m3 1 1 = v := ⟨_, rfl⟩
          have bf228 := ib_1_1 hIm3
          rw [ef228] at bf228
          obtain ⟨f229, ef229⟩ : ∃ v, m3 1 2 = v := ⟨_, rfl⟩
          have bf229 := ib_1_2 hIm3
          rw [ef229] at bf229
          refine zw_C zr_0_643 (Or.inl rfl) zm_114 rfl rfl ⟨Nat.le_of_ble_eq_true rfl, Nat.le_of_ble_eq_true rfl, Nat.le_of_ble_eq_true rfl, rfl, by decide⟩ (by omega) (th_114 (d := d - 1) (by omega) hIm3  (g0 := f228) (g1 := f229)  (F5 := m3 5) (F6 := m3 6) (F7 := m3 7) (F8 := m3 8) (F10 := m3 10) (F11 := m3 11) (F44 := m3 44) (F48 := m3 48) (F50 := m3 50) (F51 := m3 51) (F9 := m3 9) ef228 ef229 rfl rfl rfl rfl rfl rfl rfl rfl rfl rfl rfl  ) ?_
          rintro _ m230 ⟨r231, rfl, hr231a, hr231b, hIm230, gm230, po0_r231⟩
          have hFm230 : zFr W_0 m0 m230 := hFm3.trans gm230 rfl
          have km230_1_1 : m230 1 1 = f228 := (gm230 1 1 rfl).trans ef228
          have km230_1_2 : m230 1 2 = f229 := (gm230 1 2 rfl).trans ef229
          show zW E (d) 0 646 [(6, 0), (2, 0), (2, 69), (0, i2)] [(0, r231)] m230 Q
          refine zw_115 zr_0_646 rfl ?_
          refine zw_7 zr_0_647 rfl ?_
          obtain ⟨f232, ef232⟩ : ∃ v, m230 70 823 = v := ⟨_, rfl⟩
          have bf232 : 0 ≤ m230 70 823 ∧ m230 70 823 ≤ 60 := ib_70_meetings hIm230 (by omega)
          rw [ef232] at bf232
          refine zw_C zr_0_648 (Or.inl rfl) zm_178 rfl rfl ⟨Nat.le_of_ble_eq_true rfl, Nat.le_of_ble_eq_true rfl, Nat.le_of_ble_eq_true rfl, rfl, by decide⟩ (by omega) (th_178 (d := d - 1) (by omega) hIm230  (g0 := f232)  (F70 := m230 70) (F75 := m230 75) ef232 rfl rfl  ) ?_
          rintro _ m233 ⟨r234, rfl, hr234a, hr234b, hIm233, gm233, po0_r234⟩
          have hFm233 : zFr W_0 m0 m233 := hFm230.trans gm233 rfl
          have km233_1_1 : m233 1 1 = f228 := (gm233 1 1 rfl).trans km230_1_1
          have km233_1_2 : m233 1 2 = f229 := (gm233 1 2 rfl).trans km230_1_2
          have km233_70_823 : m233 70 823 = f232 := (gm233 70 823 rfl).trans ef232
          show zW E (d) 0 651 [(6, 0), (2, 0), (2, 69), (0, i2)] [(0, r234)] m233 Q
          have hkz235_0 := zk_fr hv0lp18_4 gm230
          have hkz235_1 := zk_fr hkz235_0 gm233
          have hqz236 := zq_bestSystem hIm3 hv0lp18_4 gm230 ef228 ef229 po0_r231 ef232 po0_r234
          have hfz237_0 := zfr_fr hv1lp18_4 gm230
          have hfz237_1 := zfr_fr hfz237_0 gm233
          clear po0_r231 po0_r234
          refine zw_115 zr_0_651 rfl ?_
          refine zw_42 zr_0_652 ?_
          refine zw_15 (c := 6) (L' := [(6, 0), (2, 0), (2, 69), (0, (i2 + 6))]) zr_0_1239 rfl (by decide) (by omega) rfl ?_
          refine zw_42 zr_0_1242 ?_
          exact zw_less (L := [(6, 0), (2, 0), (2, 69), (0, (i2 + 6))]) ⟨Or.inr rfl, Or.inr rfl, Or.inr rfl, Or.inr rfl, trivial⟩ (ihlp18_4 ((i2 + 6)) m233 hIm233 hFm233   (by omega) (by omega) (by assumption) (by assumption) (by omega))
        by_cases h240 : x9 = 13
        · refine zw_111 (t := 655) zr_0_33 (by rw [h240]; rfl) ?_
          refine zw_7 zr_0_655 rfl ?_
          refine zw_7s zr_0_656 rfl ?_
          refine zw_3 zr_0_657 rfl ?_
          refine zw_push zr_0_658 ?_
          refine zw_16 zr_0_659 (by omega) ?_
          refine zw_100 zr_0_660 rfl (by omega) (by omega) ?_
          intro x241 ex241 hx241a hx241b
          refine zw_7s zr_0_661 rfl ?_
          refine zw_3 zr_0_662 rfl ?_
          refine zw_push zr_0_663 ?_
          refine zw_16 zr_0_664 (by omega) ?_
          refine zw_100 zr_0_665 rfl (by omega) (by omega) ?_
          intro x242 ex242 hx242a hx242b
          refine zw_C zr_0_666 (Or.inl rfl) zm_115 rfl rfl ⟨Nat.le_of_ble_eq_true rfl, Nat.le_of_ble_eq_true rfl, Nat.le_of_ble_eq_true rfl, rfl, by decide⟩ (by omega) (th_115 (d := d - 1) (by omega) hIm3 (a0 := x241) (a1 := x242)   (F12 := m3 12)  rfl (by omega) (by omega) ) ?_
          rintro _ m243 ⟨r244, rfl, hr244a, hr244b, hIm243, gm243, po0_r244, po1_r244⟩
          have hFm243 : zFr W_0 m0 m243 := hFm3.trans gm243 rfl
          show zW E (d) 0 669 [(6, 0), (2, 0), (2, 69), (0, i2)] [(0, r244)] m243 Q
          refine zw_115 zr_0_669 rfl ?_
          refine zw_7 zr_0_670 rfl ?_
          refine zw_7s zr_0_671 rfl ?_
          refine zw_3 zr_0_672 rfl ?_
          refine zw_push zr_0_673 ?_
          refine zw_16 zr_0_674 (by omega) ?_
          refine zw_100k zr_0_675 rfl (by omega) (by omega) ex241.symm ?_
          refine zw_7s zr_0_676 rfl ?_
          refine zw_3 zr_0_677 rfl ?_
          refine zw_push zr_0_678 ?_
          refine zw_16 zr_0_679 (by omega) ?_
          refine zw_100k zr_0_680 rfl (by omega) (by omega) ex242.symm ?_
          refine zw_C zr_0_681 (Or.inl rfl) zm_179 rfl rfl ⟨Nat.le_of_ble_eq_true rfl, Nat.le_of_ble_eq_true rfl, Nat.le_of_ble_eq_true rfl, rfl, by decide⟩ (by omega) (th_179 (d := d - 1) (by omega) hIm243 (a0 := x241) (a1 := x242)   (F70 := m243 70)  rfl (by omega) (by omega) ) ?_
          rintro _ m245 ⟨r246, rfl, hr246a, hr246b, hIm245, gm245, po0_r246, po1_r246⟩
          have hFm245 : zFr W_0 m0 m245 := hFm243.trans gm245 rfl
          show zW E (d) 0 684 [(6, 0), (2, 0), (2, 69), (0, i2)] [(0, r246)] m245 Q
          obtain ⟨hkz247, hrz247⟩ := zk_shape hIm3 hv0lp18_4 gm243 po0_r244 po1_r244 gm245 po0_r246 po1_r246
          have hfz248_0 := zfr_fr hv1lp18_4 gm243
          have hfz248_1 := zfr_fr hfz248_0 gm245
          refine zw_115 zr_0_684 rfl ?_
          refine zw_42 zr_0_685 ?_
          refine zw_15 (c := 6) (L' := [(6, 0), (2, 0), (2, 69), (0, (i2 + 6))]) zr_0_1239 rfl (by decide) (by omega) rfl ?_
          refine zw_42 zr_0_1242 ?_
          exact zw_less (L := [(6, 0), (2, 0), (2, 69), (0, (i2 + 6))]) ⟨Or.inr rfl, Or.inr rfl, Or.inr rfl, Or.inr rfl, trivial⟩ (ihlp18_4 ((i2 + 6)) m245 hIm245 hFm245   (by omega) (by omega) (by assumption) (by assumption) (by omega))
        by_cases h251 : x9 = 14
        · refine zw_111 (t := 688) zr_0_33 (by rw [h251]; rfl) ?_
          refine zw_7 zr_0_688 rfl ?_
          refine zw_7s zr_0_689 rfl ?_
          refine zw_3 zr_0_690 rfl ?_
          refine zw_push zr_0_691 ?_
          refine zw_16 zr_0_692 (by omega) ?_
          refine zw_100 zr_0_693 rfl (by omega) (by omega) ?_
          intro x252 ex252 hx252a hx252b
          refine zw_7s zr_0_694 rfl ?_
          refine zw_3 zr_0_695 rfl ?_
          refine zw_push zr_0_696 ?_
          refine zw_16 zr_0_697 (by omega) ?_
          refine zw_100 zr_0_698 rfl (by omega) (by omega) ?_
          intro x253 ex253 hx253a hx253b
          obtain ⟨f254, ef254⟩ : ∃ v, m3 1 4 = v := ⟨_, rfl⟩
          have bf254 := ib_1_4 hIm3
          rw [ef254] at bf254
          obtain ⟨f255, ef255⟩ : ∃ v, m3 1 5 = v := ⟨_, rfl⟩
          have bf255 := ib_1_5 hIm3
          rw [ef255] at bf255
          refine zw_C zr_0_699 (Or.inl rfl) zm_116 rfl rfl ⟨Nat.le_of_ble_eq_true rfl, Nat.le_of_ble_eq_true rfl, Nat.le_of_ble_eq_true rfl, rfl, by decide⟩ (by omega) (th_116 (d := d - 1) (by omega) hIm3 (a0 := x252) (a1 := x253) (g0 := f254) (g1 := f255)   ef254 ef255  (by omega) (by omega) ) ?_
          rintro _ m256 ⟨r257, rfl, hr257a, hr257b, hIm256, gm256, po0_r257, po1_r257⟩
          have hFm256 : zFr W_0 m0 m256 := hFm3.trans gm256 rfl
          show zW E (d) 0 702 [(6, 0), (2, 0), (2, 69), (0, i2)] [(0, r257)] m256 Q
          refine zw_115 zr_0_702 rfl ?_
          refine zw_7 zr_0_703 rfl ?_
          refine zw_7s zr_0_704 rfl ?_
          refine zw_3 zr_0_705 rfl ?_
          refine zw_push zr_0_706 ?_
          refine zw_16 zr_0_707 (by omega) ?_
          refine zw_100k zr_0_708 rfl (by omega) (by omega) ex252.symm ?_
          refine zw_7s zr_0_709 rfl ?_
          refine zw_3 zr_0_710 rfl ?_
          refine zw_push zr_0_711 ?_
          refine zw_16 zr_0_712 (by omega) ?_
          refine zw_100k zr_0_713 rfl (by omega) (by omega) ex253.symm ?_
          refine zw_C zr_0_714 (Or.inl rfl) zm_180 rfl rfl ⟨Nat.le_of_ble_eq_true rfl, Nat.le_of_ble_eq_true rfl, Nat.le_of_ble_eq_true rfl, rfl, by decide⟩ (by omega) (th_180 (d := d - 1) (by omega) hIm256 (a0 := x252) (a1 := x253)   (F70 := m256 70)  rfl (by omega) (by omega) ) ?_
          rintro _ m258 ⟨r259, rfl, hr259a, hr259b, hIm258, gm258, po0_r259, po1_r259⟩
          have hFm258 : zFr W_0 m0 m258 := hFm256.trans gm258 rfl
          show zW E (d) 0 717 [(6, 0), (2, 0), (2, 69), (0, i2)] [(0, r259)] m258 Q
          obtain ⟨hkz260, hrz260⟩ := zk_wide hIm3 hv0lp18_4 gm256 ef254 ef255 po0_r257 po1_r257 gm258 po0_r259 po1_r259
          have hfz261_0 := zfr_fr hv1lp18_4 gm256
          have hfz261_1 := zfr_fr hfz261_0 gm258
          refine zw_115 zr_0_717 rfl ?_
          refine zw_42 zr_0_718 ?_
          refine zw_15 (c := 6) (L' := [(6, 0), (2, 0), (2, 69), (0, (i2 + 6))]) zr_0_1239 rfl (by decide) (by omega) rfl ?_
          refine zw_42 zr_0_1242 ?_
          exact zw_less (L := [(6, 0), (2, 0), (2, 69), (0, (i2 + 6))]) ⟨Or.inr rfl, Or.inr rfl, Or.inr rfl, Or.inr rfl, trivial⟩ (ihlp18_4 ((i2 + 6)) m258 hIm258 hFm258   (by omega) (by omega) (by assumption) (by assumption) (by omega))
        by_cases h264 : x9 = 15
        · refine zw_111 (t := 721) zr_0_33 (by rw [h264]; rfl) ?_
          refine zw_7 zr_0_721 rfl ?_
          refine zw_C zr_0_722 (Or.inl rfl) zm_117 rfl rfl ⟨Nat.le_of_ble_eq_true rfl, Nat.le_of_ble_eq_true rfl, Nat.le_of_ble_eq_true rfl, rfl, by decide⟩ (by omega) (th_117 (d := d - 1) (by omega) hIm3        ) ?_
          rintro _ m265 ⟨r266, rfl, hr266a, hr266b, hIm265, gm265⟩
          have hFm265 : zFr W_0 m0 m265 := hFm3.trans gm265 rfl
          show zW E (d) 0 725 [(6, 0), (2, 0), (2, 69), (0, i2)] [(0, r266)] m265 Q
          refine zw_115 zr_0_725 rfl ?_
          refine zw_7 zr_0_726 rfl ?_
          refine zw_C zr_0_727 (Or.inl rfl) zm_185 rfl rfl ⟨Nat.le_of_ble_eq_true rfl, Nat.le_of_ble_eq_true rfl, Nat.le_of_ble_eq_true rfl, rfl, by decide⟩ (by omega) (th_185 (d := d - 1) (by omega) hIm265        ) ?_
          rintro _ m267 ⟨r268, rfl, hr268a, hr268b, hIm267, gm267⟩
          have hFm267 : zFr W_0 m0 m267 := hFm265.trans gm267 rfl
          show zW E (d) 0 730 [(6, 0), (2, 0), (2, 69), (0, i2)] [(0, r268)] m267 Q
          have hkz269_0 := zk_fr hv0lp18_4 gm265
          have hkz269_1 := zk_fr hkz269_0 gm267
          have hfz270_0 := zfr_fr hv1lp18_4 gm265
          have hfz270_1 := zfr_fr hfz270_0 gm267
          refine zw_115 zr_0_730 rfl ?_
          refine zw_42 zr_0_731 ?_
          refine zw_15 (c := 6) (L' := [(6, 0), (2, 0), (2, 69), (0, (i2 + 6))]) zr_0_1239 rfl (by decide) (by omega) rfl ?_
          refine zw_42 zr_0_1242 ?_
          exact zw_less (L := [(6, 0), (2, 0), (2, 69), (0, (i2 + 6))]) ⟨Or.inr rfl, Or.inr rfl, Or.inr rfl, Or.inr rfl, trivial⟩ (ihlp18_4 ((i2 + 6)) m267 hIm267 hFm267   (by omega) (by omega) (by assumption) (by assumption) (by omega))
        by_cases h273 : x9 = 16
        · refine zw_111 (t := 734) zr_0_33 (by rw [h273]; rfl) ?_
          refine zw_7 zr_0_734 rfl ?_
          refine zw_7s zr_0_735 rfl ?_
          refine zw_3 zr_0_736 rfl ?_
          refine zw_push zr_0_737 ?_
          refine zw_16 zr_0_738 (by omega) ?_
          refine zw_100 zr_0_739 rfl (by omega) (by omega) ?_
          intro x274 ex274 hx274a hx274b
          refine zw_7s zr_0_740 rfl ?_
          refine zw_3 zr_0_741 rfl ?_
          refine zw_push zr_0_742 ?_
          refine zw_16 zr_0_743 (by omega) ?_
          refine zw_100 zr_0_744 rfl (by omega) (by omega) ?_
          intro x275 ex275 hx275a hx275b
          refine zw_7s zr_0_745 rfl ?_
          refine zw_3 zr_0_746 rfl ?_
          refine zw_push zr_0_747 ?_
          refine zw_16 zr_0_748 (by omega) ?_
          refine zw_100 zr_0_749 rfl (by omega) (by omega) ?_
          intro x276 ex276 hx276a hx276b
          refine zw_C zr_0_750 (Or.inl rfl) zm_118 rfl rfl ⟨Nat.le_of_ble_eq_true rfl, Nat.le_of_ble_eq_true rfl, Nat.le_of_ble_eq_true rfl, rfl, by decide⟩ (by omega) (th_118 (d := d - 1) (by omega) hIm3 (a0 := x274) (a1 := x275) (a2 := x276)      (by omega) (by omega) (by omega) ) ?_
          rintro _ m277 ⟨r278, rfl, hr278a, hr278b, hIm277, gm277⟩
          have hFm277 : zFr W_0 m0 m277 := hFm3.trans gm277 rfl
          show zW E (d) 0 753 [(6, 0), (2, 0), (2, 69), (0, i2)] [(0, r278)] m277 Q
          refine zw_115 zr_0_753 rfl ?_
          refine zw_7 zr_0_754 rfl ?_
          refine zw_7s zr_0_755 rfl ?_
          refine zw_3 zr_0_756 rfl ?_
          refine zw_push zr_0_757 ?_
          refine zw_16 zr_0_758 (by omega) ?_
          refine zw_100k zr_0_759 rfl (by omega) (by omega) ex274.symm ?_
          refine zw_7s zr_0_760 rfl ?_
          refine zw_3 zr_0_761 rfl ?_
          refine zw_push zr_0_762 ?_
          refine zw_16 zr_0_763 (by omega) ?_
          refine zw_100k zr_0_764 rfl (by omega) (by omega) ex275.symm ?_
          refine zw_7s zr_0_765 rfl ?_
          refine zw_3 zr_0_766 rfl ?_
          refine zw_push zr_0_767 ?_
          refine zw_16 zr_0_768 (by omega) ?_
          refine zw_100k zr_0_769 rfl (by omega) (by omega) ex276.symm ?_
          refine zw_C zr_0_770 (Or.inl rfl) zm_186 rfl rfl ⟨Nat.le_of_ble_eq_true rfl, Nat.le_of_ble_eq_true rfl, Nat.le_of_ble_eq_true rfl, rfl, by decide⟩ (by omega) (th_186 (d := d - 1) (by omega) hIm277 (a0 := x274) (a1 := x275) (a2 := x276)      (by omega) (by omega) (by omega) ) ?_
          rintro _ m279 ⟨r280, rfl, hr280a, hr280b, hIm279, gm279⟩
          have hFm279 : zFr W_0 m0 m279 := hFm277.trans gm279 rfl
          show zW E (d) 0 773 [(6, 0), (2, 0), (2, 69), (0, i2)] [(0, r280)] m279 Q
          have hkz281_0 := zk_fr hv0lp18_4 gm277
          have hkz281_1 := zk_fr hkz281_0 gm279
          have hfz282_0 := zfr_fr hv1lp18_4 gm277
          have hfz282_1 := zfr_fr hfz282_0 gm279
          refine zw_115 zr_0_773 rfl ?_
          refine zw_42 zr_0_774 ?_
          refine zw_15 (c := 6) (L' := [(6, 0), (2, 0), (2, 69), (0, (i2 + 6))]) zr_0_1239 rfl (by decide) (by omega) rfl ?_
          refine zw_42 zr_0_1242 ?_
          exact zw_less (L := [(6, 0), (2, 0), (2, 69), (0, (i2 + 6))]) ⟨Or.inr rfl, Or.inr rfl, Or.inr rfl, Or.inr rfl, trivial⟩ (ihlp18_4 ((i2 + 6)) m279 hIm279 hFm279   (by omega) (by omega) (by assumption) (by assumption) (by omega))
        by_cases h285 : x9 = 17
        · refine zw_111 (t := 777) zr_0_33 (by rw [h285]; rfl) ?_
          refine zw_7 zr_0_777 rfl ?_
          refine zw_C zr_0_778 (Or.inl rfl) zm_119 rfl rfl ⟨Nat.le_of_ble_eq_true rfl, Nat.le_of_ble_eq_true rfl, Nat.le_of_ble_eq_true rfl, rfl, by decide⟩ (by omega) (th_119 (d := d - 1) (by omega) hIm3        ) ?_
          rintro _ m286 ⟨r287, rfl, hr287a, hr287b, hIm286, gm286⟩
          have hFm286 : zFr W_0 m0 m286 := hFm3.trans gm286 rfl
          show zW E (d) 0 781 [(6, 0), (2, 0), (2, 69), (0, i2)] [(1, r287)] m286 Q
          refine zw_116 zr_0_781 rfl ?_
          refine zw_7 zr_0_782 rfl ?_
          refine zw_C zr_0_783 (Or.inl rfl) zm_187 rfl rfl ⟨Nat.le_of_ble_eq_true rfl, Nat.le_of_ble_eq_true rfl, Nat.le_of_ble_eq_true rfl, rfl, by decide⟩ (by omega) (th_187 (d := d - 1) (by omega) hIm286        ) ?_
          rintro _ m288 ⟨r289, rfl, hr289a, hr289b, hIm288, gm288⟩
          have hFm288 : zFr W_0 m0 m288 := hFm286.trans gm288 rfl
          show zW E (d) 0 786 [(6, 0), (2, 0), (2, 69), (0, i2)] [(1, r289)] m288 Q
          have hkz290_0 := zk_fr hv0lp18_4 gm286
          have hkz290_1 := zk_fr hkz290_0 gm288
          have hfz291_0 := zfr_fr hv1lp18_4 gm286
          have hfz291_1 := zfr_fr hfz291_0 gm288
          refine zw_116 zr_0_786 rfl ?_
          refine zw_42 zr_0_787 ?_
          refine zw_15 (c := 6) (L' := [(6, 0), (2, 0), (2, 69), (0, (i2 + 6))]) zr_0_1239 rfl (by decide) (by omega) rfl ?_
          refine zw_42 zr_0_1242 ?_
          exact zw_less (L := [(6, 0), (2, 0), (2, 69), (0, (i2 + 6))]) ⟨Or.inr rfl, Or.inr rfl, Or.inr rfl, Or.inr rfl, trivial⟩ (ihlp18_4 ((i2 + 6)) m288 hIm288 hFm288   (by omega) (by omega) (by assumption) (by assumption) (by omega))
        by_cases h294 : x9 = 18
        · refine zw_111 (t := 790) zr_0_33 (by rw [h294]; rfl) ?_
          refine zw_7 zr_0_790 rfl ?_
          refine zw_7s zr_0_791 rfl ?_
          refine zw_3 zr_0_792 rfl ?_
          refine zw_push zr_0_793 ?_
          refine zw_16 zr_0_794 (by omega) ?_
          refine zw_100 zr_0_795 rfl (by omega) (by omega) ?_
          intro x295 ex295 hx295a hx295b
          obtain ⟨f296, ef296⟩ : ∃ v, m3 1 0 = v := ⟨_, rfl⟩
          have bf296 := ib_1_0 hIm3
          rw [ef296] at bf296
          obtain ⟨f297, ef297⟩ : ∃ v, m3 1 1 = v := ⟨_, rfl⟩
          have bf297 := ib_1_1 hIm3
          rw [ef297] at bf297
          obtain ⟨f298, ef298⟩ : ∃ v, m3 1 2 = v := ⟨_, rfl⟩
          have bf298 := ib_1_2 hIm3
          rw [ef298] at bf298
          obtain ⟨f299, ef299⟩ : ∃ v, m3 1 3 = v := ⟨_, rfl⟩
          have bf299 := ib_1_3 hIm3
          rw [ef299] at bf299
          refine zw_C zr_0_796 (Or.inl rfl) zm_120 rfl rfl ⟨Nat.le_of_ble_eq_true rfl, Nat.le_of_ble_eq_true rfl, Nat.le_of_ble_eq_true rfl, rfl, by decide⟩ (by omega) (th_120 (d := d - 1) (by omega) hIm3 (a0 := x295) (g0 := f296) (g1 := f297) (g2 := f298) (g3 := f299)  (F6 := m3 6) (F7 := m3 7) ef296 ef297 ef298 ef299 rfl rfl (by omega) ) ?_
          rintro _ m300 ⟨r301, rfl, hr301a, hr301b, hIm300, gm300, po0_r301⟩
          have hFm300 : zFr W_0 m0 m300 := hFm3.trans gm300 rfl
          have km300_1_0 : m300 1 0 = f296 := (gm300 1 0 rfl).trans ef296
          have km300_1_1 : m300 1 1 = f297 := (gm300 1 1 rfl).trans ef297
          have km300_1_2 : m300 1 2 = f298 := (gm300 1 2 rfl).trans ef298
          have km300_1_3 : m300 1 3 = f299 := (gm300 1 3 rfl).trans ef299
          show zW E (d) 0 799 [(6, 0), (2, 0), (2, 69), (0, i2)] [(0, r301)] m300 Q
          refine zw_115 zr_0_799 rfl ?_
          refine zw_7 zr_0_800 rfl ?_
          refine zw_7s zr_0_801 rfl ?_
          refine zw_3 zr_0_802 rfl ?_
          refine zw_push zr_0_803 ?_
          refine zw_16 zr_0_804 (by omega) ?_
          refine zw_100k zr_0_805 rfl (by omega) (by omega) ex295.symm ?_
          obtain ⟨f302, ef302⟩ : ∃ v, m300 70 822 = v := ⟨_, rfl⟩
          have bf302 : 0 ≤ m300 70 822 ∧ m300 70 822 ≤ 10 := ib_70_players hIm300 (by omega)
          rw [ef302] at bf302
          obtain ⟨f303, ef303⟩ : ∃ v, m300 70 823 = v := ⟨_, rfl⟩
          have bf303 : 0 ≤ m300 70 823 ∧ m300 70 823 ≤ 60 := ib_70_meetings hIm300 (by omega)
          rw [ef303] at bf303
          refine zw_C zr_0_806 (Or.inl rfl) zm_190 rfl rfl ⟨Nat.le_of_ble_eq_true rfl, Nat.le_of_ble_eq_true rfl, Nat.le_of_ble_eq_true rfl, rfl, by decide⟩ (by omega) (th_190 (d := d - 1) (by omega) hIm300 (a0 := x295) (g0 := f302) (g1 := f303)  (F70 := m300 70) ef302 ef303 rfl (by omega) ) ?_
          rintro _ m304 ⟨r305, rfl, hr305a, hr305b, hIm304, gm304, po0_r305⟩
          have hFm304 : zFr W_0 m0 m304 := hFm300.trans gm304 rfl
          have km304_1_0 : m304 1 0 = f296 := (gm304 1 0 rfl).trans km300_1_0
          have km304_1_1 : m304 1 1 = f297 := (gm304 1 1 rfl).trans km300_1_1
          have km304_1_2 : m304 1 2 = f298 := (gm304 1 2 rfl).trans km300_1_2
          have km304_1_3 : m304 1 3 = f299 := (gm304 1 3 rfl).trans km300_1_3
          have km304_70_822 : m304 70 822 = f302 := (gm304 70 822 rfl).trans ef302
          have km304_70_823 : m304 70 823 = f303 := (gm304 70 823 rfl).trans ef303
          show zW E (d) 0 809 [(6, 0), (2, 0), (2, 69), (0, i2)] [(0, r305)] m304 Q
          have hkz306_0 := zk_fr hv0lp18_4 gm300
          have hkz306_1 := zk_fr hkz306_0 gm304
          have hqz307 := zq_island hIm3 hv0lp18_4 gm300 ef296 ef297 ef298 ef299 po0_r301 ef302 ef303 po0_r305
          have hfz308_0 := zfr_fr hv1lp18_4 gm300
          have hfz308_1 := zfr_fr hfz308_0 gm304
          refine zw_115 zr_0_809 rfl ?_
          refine zw_42 zr_0_810 ?_
          refine zw_15 (c := 6) (L' := [(6, 0), (2, 0), (2, 69), (0, (i2 + 6))]) zr_0_1239 rfl (by decide) (by omega) rfl ?_
          refine zw_42 zr_0_1242 ?_
          exact zw_less (L := [(6, 0), (2, 0), (2, 69), (0, (i2 + 6))]) ⟨Or.inr rfl, Or.inr rfl, Or.inr rfl, Or.inr rfl, trivial⟩ (ihlp18_4 ((i2 + 6)) m304 hIm304 hFm304   (by omega) (by omega) (by assumption) (by assumption) (by omega))
        by_cases h311 : x9 = 19
        · refine zw_111 (t := 813) zr_0_33 (by rw [h311]; rfl) ?_
          refine zw_7 zr_0_813 rfl ?_
          refine zw_7s zr_0_814 rfl ?_
          refine zw_3 zr_0_815 rfl ?_
          refine zw_push zr_0_816 ?_
          refine zw_16 zr_0_817 (by omega) ?_
          refine zw_100 zr_0_818 rfl (by omega) (by omega) ?_
          intro x312 ex312 hx312a hx312b
          refine zw_7s zr_0_819 rfl ?_
          refine zw_3 zr_0_820 rfl ?_
          refine zw_push zr_0_821 ?_
          refine zw_16 zr_0_822 (by omega) ?_
          refine zw_100 zr_0_823 rfl (by omega) (by omega) ?_
          intro x313 ex313 hx313a hx313b
          refine zw_7s zr_0_824 rfl ?_
          refine zw_3 zr_0_825 rfl ?_
          refine zw_push zr_0_826 ?_
          refine zw_16 zr_0_827 (by omega) ?_
          refine zw_100 zr_0_828 rfl (by omega) (by omega) ?_
          intro x314 ex314 hx314a hx314b
          refine zw_C zr_0_829 (Or.inl rfl) zm_121 rfl rfl ⟨Nat.le_of_ble_eq_true rfl, Nat.le_of_ble_eq_true rfl, Nat.le_of_ble_eq_true rfl, rfl, by decide⟩ (by omega) (th_121 (d := d - 1) (by omega) hIm3 (a0 := x312) (a1 := x313) (a2 := x314)      (by omega) (by omega) (by omega) ) ?_
          rintro _ m315 ⟨r316, rfl, hr316a, hr316b, hIm315, gm315⟩
          have hFm315 : zFr W_0 m0 m315 := hFm3.trans gm315 rfl
          show zW E (d) 0 832 [(6, 0), (2, 0), (2, 69), (0, i2)] [(0, r316)] m315 Q
          refine zw_115 zr_0_832 rfl ?_
          refine zw_7 zr_0_833 rfl ?_
          refine zw_7s zr_0_834 rfl ?_
          refine zw_3 zr_0_835 rfl ?_
          refine zw_push zr_0_836 ?_
          refine zw_16 zr_0_837 (by omega) ?_
          refine zw_100k zr_0_838 rfl (by omega) (by omega) ex312.symm ?_
          refine zw_7s zr_0_839 rfl ?_
          refine zw_3 zr_0_840 rfl ?_
          refine zw_push zr_0_841 ?_
          refine zw_16 zr_0_842 (by omega) ?_
          refine zw_100k zr_0_843 rfl (by omega) (by omega) ex313.symm ?_
          refine zw_7s zr_0_844 rfl ?_
          refine zw_3 zr_0_845 rfl ?_
          refine zw_push zr_0_846 ?_
          refine zw_16 zr_0_847 (by omega) ?_
          refine zw_100k zr_0_848 rfl (by omega) (by omega) ex314.symm ?_
          refine zw_C zr_0_849 (Or.inl rfl) zm_191 rfl rfl ⟨Nat.le_of_ble_eq_true rfl, Nat.le_of_ble_eq_true rfl, Nat.le_of_ble_eq_true rfl, rfl, by decide⟩ (by omega) (th_191 (d := d - 1) (by omega) hIm315 (a0 := x312) (a1 := x313) (a2 := x314)      (by omega) (by omega) (by omega) ) ?_
          rintro _ m317 ⟨r318, rfl, hr318a, hr318b, hIm317, gm317⟩
          have hFm317 : zFr W_0 m0 m317 := hFm315.trans gm317 rfl
          show zW E (d) 0 852 [(6, 0), (2, 0), (2, 69), (0, i2)] [(0, r318)] m317 Q
          have hkz319_0 := zk_fr hv0lp18_4 gm315
          have hkz319_1 := zk_fr hkz319_0 gm317
          have hfz320_0 := zfr_fr hv1lp18_4 gm315
          have hfz320_1 := zfr_fr hfz320_0 gm317
          refine zw_115 zr_0_852 rfl ?_
          refine zw_42 zr_0_853 ?_
          refine zw_15 (c := 6) (L' := [(6, 0), (2, 0), (2, 69), (0, (i2 + 6))]) zr_0_1239 rfl (by decide) (by omega) rfl ?_
          refine zw_42 zr_0_1242 ?_
          exact zw_less (L := [(6, 0), (2, 0), (2, 69), (0, (i2 + 6))]) ⟨Or.inr rfl, Or.inr rfl, Or.inr rfl, Or.inr rfl, trivial⟩ (ihlp18_4 ((i2 + 6)) m317 hIm317 hFm317   (by omega) (by omega) (by assumption) (by assumption) (by omega))
        by_cases h323 : x9 = 20
        · refine zw_111 (t := 856) zr_0_33 (by rw [h323]; rfl) ?_
          refine zw_7 zr_0_856 rfl ?_
          obtain ⟨f324, ef324⟩ : ∃ v, m3 1 0 = v := ⟨_, rfl⟩
          have bf324 := ib_1_0 hIm3
          rw [ef324] at bf324
          obtain ⟨f325, ef325⟩ : ∃ v, m3 1 1 = v := ⟨_, rfl⟩
          have bf325 := ib_1_1 hIm3
          rw [ef325] at bf325
          obtain ⟨f326, ef326⟩ : ∃ v, m3 1 2 = v := ⟨_, rfl⟩
          have bf326 := ib_1_2 hIm3
          rw [ef326] at bf326
          obtain ⟨f327, ef327⟩ : ∃ v, m3 1 3 = v := ⟨_, rfl⟩
          have bf327 := ib_1_3 hIm3
          rw [ef327] at bf327
          refine zw_C zr_0_857 (Or.inl rfl) zm_122 rfl rfl ⟨Nat.le_of_ble_eq_true rfl, Nat.le_of_ble_eq_true rfl, Nat.le_of_ble_eq_true rfl, rfl, by decide⟩ (by omega) (th_122 (d := d - 1) (by omega) hIm3  (g0 := f324) (g1 := f325) (g2 := f326) (g3 := f327)  (F6 := m3 6) (F7 := m3 7) ef324 ef325 ef326 ef327 rfl rfl  (qK_pl hv0lp18_4 ef325 ef324)) ?_
          rintro _ m329 ⟨r330, rfl, hr330a, hr330b, hIm329, gm329, po0_r330, po1_r330⟩
          have hFm329 : zFr W_0 m0 m329 := hFm3.trans gm329 rfl
          have km329_1_0 : m329 1 0 = f324 := (gm329 1 0 rfl).trans ef324
          have km329_1_1 : m329 1 1 = f325 := (gm329 1 1 rfl).trans ef325
          have km329_1_2 : m329 1 2 = f326 := (gm329 1 2 rfl).trans ef326
          have km329_1_3 : m329 1 3 = f327 := (gm329 1 3 rfl).trans ef327
          show zW E (d) 0 860 [(6, 0), (2, 0), (2, 69), (0, i2)] [(1, r330)] m329 Q
          refine zw_116 zr_0_860 rfl ?_
          refine zw_7 zr_0_861 rfl ?_
          obtain ⟨f331, ef331⟩ : ∃ v, m329 70 823 = v := ⟨_, rfl⟩
          have bf331 : 0 ≤ m329 70 823 ∧ m329 70 823 ≤ 60 := ib_70_meetings hIm329 (by omega)
          rw [ef331] at bf331
          refine zw_C zr_0_862 (Or.inl rfl) zm_192 rfl rfl ⟨Nat.le_of_ble_eq_true rfl, Nat.le_of_ble_eq_true rfl, Nat.le_of_ble_eq_true rfl, rfl, by decide⟩ (by omega) (th_192 (d := d - 1) (by omega) hIm329  (g0 := f331)  (F70 := m329 70) (F81 := m329 81) ef331 rfl rfl  ) ?_
          rintro _ m332 ⟨r333, rfl, hr333a, hr333b, hIm332, gm332, po0_r333, po1_r333⟩
          have hFm332 : zFr W_0 m0 m332 := hFm329.trans gm332 rfl
          have km332_1_0 : m332 1 0 = f324 := (gm332 1 0 rfl).trans km329_1_0
          have km332_1_1 : m332 1 1 = f325 := (gm332 1 1 rfl).trans km329_1_1
          have km332_1_2 : m332 1 2 = f326 := (gm332 1 2 rfl).trans km329_1_2
          have km332_1_3 : m332 1 3 = f327 := (gm332 1 3 rfl).trans km329_1_3
          have km332_70_823 : m332 70 823 = f331 := (gm332 70 823 rfl).trans ef331
          show zW E (d) 0 865 [(6, 0), (2, 0), (2, 69), (0, i2)] [(1, r333)] m332 Q
          have hkz334_0 := zk_fr hv0lp18_4 gm329
          have hkz334_1 := zk_fr hkz334_0 gm332
          have hqz335 := zq_bridges hIm3 hv0lp18_4 gm329 ef324 ef325 ef326 ef327 po0_r330 po1_r330 ef331 po0_r333 po1_r333
          have hfz336_0 := zfr_fr hv1lp18_4 gm329
          have hfz336_1 := zfr_fr hfz336_0 gm332
          refine zw_116 zr_0_865 rfl ?_
          refine zw_42 zr_0_866 ?_
          refine zw_15 (c := 6) (L' := [(6, 0), (2, 0), (2, 69), (0, (i2 + 6))]) zr_0_1239 rfl (by decide) (by omega) rfl ?_
          refine zw_42 zr_0_1242 ?_
          exact zw_less (L := [(6, 0), (2, 0), (2, 69), (0, (i2 + 6))]) ⟨Or.inr rfl, Or.inr rfl, Or.inr rfl, Or.inr rfl, trivial⟩ (ihlp18_4 ((i2 + 6)) m332 hIm332 hFm332   (by omega) (by omega) (by assumption) (by assumption) (by omega))
        by_cases h339 : x9 = 21
        · refine zw_111 (t := 869) zr_0_33 (by rw [h339]; rfl) ?_
          refine zw_7 zr_0_869 rfl ?_
          refine zw_7s zr_0_870 rfl ?_
          refine zw_3 zr_0_871 rfl ?_
          refine zw_push zr_0_872 ?_
          refine zw_16 zr_0_873 (by omega) ?_
          refine zw_100 zr_0_874 rfl (by omega) (by omega) ?_
          intro x340 ex340 hx340a hx340b
          refine zw_7s zr_0_875 rfl ?_
          refine zw_3 zr_0_876 rfl ?_
          refine zw_push zr_0_877 ?_
          refine zw_16 zr_0_878 (by omega) ?_
          refine zw_100 zr_0_879 rfl (by omega) (by omega) ?_
          intro x341 ex341 hx341a hx341b
          refine zw_7s zr_0_880 rfl ?_
          refine zw_3 zr_0_881 rfl ?_
          refine zw_push zr_0_882 ?_
          refine zw_16 zr_0_883 (by omega) ?_
          refine zw_100 zr_0_884 rfl (by omega) (by omega) ?_
          intro x342 ex342 hx342a hx342b
          obtain ⟨f343, ef343⟩ : ∃ v, m3 1 0 = v := ⟨_, rfl⟩
          have bf343 := ib_1_0 hIm3
          rw [ef343] at bf343
          obtain ⟨f344, ef344⟩ : ∃ v, m3 1 1 = v := ⟨_, rfl⟩
          have bf344 := ib_1_1 hIm3
          rw [ef344] at bf344
          obtain ⟨f345, ef345⟩ : ∃ v, m3 1 2 = v := ⟨_, rfl⟩
          have bf345 := ib_1_2 hIm3
          rw [ef345] at bf345
          obtain ⟨f346, ef346⟩ : ∃ v, m3 42 0 = v := ⟨_, rfl⟩
          have bf346 := hIm3.fl (c := 42) (k := 0) rfl
          rw [ef346] at bf346
          obtain ⟨f347, ef347⟩ : ∃ v, m3 42 1 = v := ⟨_, rfl⟩
          have bf347 := hIm3.fl (c := 42) (k := 1) rfl
          rw [ef347] at bf347
          refine zw_C zr_0_885 (Or.inl rfl) zm_123 rfl rfl ⟨Nat.le_of_ble_eq_true rfl, Nat.le_of_ble_eq_true rfl, Nat.le_of_ble_eq_true rfl, rfl, by decide⟩ (by omega) (th_123 (d := d - 1) (by omega) hIm3 (a0 := x340) (a1 := x341) (a2 := x342) (g0 := f343) (g1 := f344) (g2 := f345) (g3 := f346) (g4 := f347)  (F5 := m3 5) (F6 := m3 6) (F7 := m3 7) (F8 := m3 8) (F10 := m3 10) (F11 := m3 11) (F44 := m3 44) (F48 := m3 48) (F50 := m3 50) (F51 := m3 51) (F9 := m3 9) ef343 ef344 ef345 ef346 ef347 rfl rfl rfl rfl rfl rfl rfl rfl rfl rfl rfl (by omega) (by omega) (by omega) (qK_so hv0lp18_4 ef344 (by omega)) (qK_pl hv0lp18_4 ef344 ef343)) ?_
          rintro _ m350 ⟨r351, rfl, hr351a, hr351b, hIm350, gm350, po0_r351, po1_r351⟩
          have hFm350 : zFr W_0 m0 m350 := hFm3.trans gm350 rfl
          have km350_1_0 : m350 1 0 = f343 := (gm350 1 0 rfl).trans ef343
          have km350_1_1 : m350 1 1 = f344 := (gm350 1 1 rfl).trans ef344
          have km350_1_2 : m350 1 2 = f345 := (gm350 1 2 rfl).trans ef345
          show zW E (d) 0 888 [(6, 0), (2, 0), (2, 69), (0, i2)] [(0, r351)] m350 Q
          refine zw_115 zr_0_888 rfl ?_
          refine zw_7 zr_0_889 rfl ?_
          refine zw_7s zr_0_890 rfl ?_
          refine zw_3 zr_0_891 rfl ?_
          refine zw_push zr_0_892 ?_
          refine zw_16 zr_0_893 (by omega) ?_
          refine zw_100k zr_0_894 rfl (by omega) (by omega) ex340.symm ?_
          refine zw_7s zr_0_895 rfl ?_
          refine zw_3 zr_0_896 rfl ?_
          refine zw_push zr_0_897 ?_
          refine zw_16 zr_0_898 (by omega) ?_
          refine zw_100k zr_0_899 rfl (by omega) (by omega) ex341.symm ?_
          refine zw_7s zr_0_900 rfl ?_
          refine zw_3 zr_0_901 rfl ?_
          refine zw_push zr_0_902 ?_
          refine zw_16 zr_0_903 (by omega) ?_
          refine zw_100k zr_0_904 rfl (by omega) (by omega) ex342.symm ?_
          obtain ⟨f352, ef352⟩ : ∃ v, m350 70 822 = v := ⟨_, rfl⟩
          have bf352 : 0 ≤ m350 70 822 ∧ m350 70 822 ≤ 10 := ib_70_players hIm350 (by omega)
          rw [ef352] at bf352
          obtain ⟨f353, ef353⟩ : ∃ v, m350 70 823 = v := ⟨_, rfl⟩
          have bf353 : 0 ≤ m350 70 823 ∧ m350 70 823 ≤ 60 := ib_70_meetings hIm350 (by omega)
          rw [ef353] at bf353
          obtain ⟨f354, ef354⟩ : ∃ v, m350 69 3 = v := ⟨_, rfl⟩
          have bf354 := hIm350.fl (c := 69) (k := 3) rfl
          rw [ef354] at bf354
          obtain ⟨f355, ef355⟩ : ∃ v, m350 69 4 = v := ⟨_, rfl⟩
          have bf355 := hIm350.fl (c := 69) (k := 4) rfl
          rw [ef355] at bf355
          refine zw_C zr_0_905 (Or.inl rfl) zm_196 rfl rfl ⟨Nat.le_of_ble_eq_true rfl, Nat.le_of_ble_eq_true rfl, Nat.le_of_ble_eq_true rfl, rfl, by decide⟩ (by omega) (th_196 (d := d - 1) (by omega) hIm350 (a0 := x340) (a1 := x341) (a2 := x342) (g0 := f352) (g1 := f353) (g2 := f354) (g3 := f355)  (F70 := m350 70) ef352 ef353 ef354 ef355 rfl (by omega) (by omega) (by omega) (qK_sr (zk_fr hv0lp18_4 gm350) ef353 (by omega))) ?_
          rintro _ m357 ⟨r358, rfl, hr358a, hr358b, hIm357, gm357, po0_r358, po1_r358⟩
          have hFm357 : zFr W_0 m0 m357 := hFm350.trans gm357 rfl
          have km357_1_0 : m357 1 0 = f343 := (gm357 1 0 rfl).trans km350_1_0
          have km357_1_1 : m357 1 1 = f344 := (gm357 1 1 rfl).trans km350_1_1
          have km357_1_2 : m357 1 2 = f345 := (gm357 1 2 rfl).trans km350_1_2
          have km357_70_822 : m357 70 822 = f352 := (gm357 70 822 rfl).trans ef352
          have km357_70_823 : m357 70 823 = f353 := (gm357 70 823 rfl).trans ef353
          show zW E (d) 0 908 [(6, 0), (2, 0), (2, 69), (0, i2)] [(0, r358)] m357 Q
          have hkz359_0 := zk_fr hv0lp18_4 gm350
          have hkz359_1 := zk_fr hkz359_0 gm357
          have hqz360 := zq_best hIm3 hv0lp18_4 gm350 ef343 ef344 ef345 ef346 ef347 po0_r351 po1_r351 ef352 ef353 ef354 ef355 po0_r358 po1_r358
          have hfz361 := zfr_2 (zf_best hIm3 hv0lp18_4 hv1lp18_4 gm350 ef343 ef344 ef345 ef346 ef347 po0_r351 po1_r351 ef352 ef353 ef354 ef355 po0_r358 po1_r358) gm357
          clear po0_r351 po0_r358
          refine zw_115 zr_0_908 rfl ?_
          refine zw_42 zr_0_909 ?_
          refine zw_15 (c := 6) (L' := [(6, 0), (2, 0), (2, 69), (0, (i2 + 6))]) zr_0_1239 rfl (by decide) (by omega) rfl ?_
          refine zw_42 zr_0_1242 ?_
          exact zw_less (L := [(6, 0), (2, 0), (2, 69), (0, (i2 + 6))]) ⟨Or.inr rfl, Or.inr rfl, Or.inr rfl, Or.inr rfl, trivial⟩ (ihlp18_4 ((i2 + 6)) m357 hIm357 hFm357   (by omega) (by omega) (by assumption) (by assumption) (by omega))
        by_cases h364 : x9 = 22
        · refine zw_111 (t := 912) zr_0_33 (by rw [h364]; rfl) ?_
          refine zw_7 zr_0_912 rfl ?_
          obtain ⟨f365, ef365⟩ : ∃ v, m3 1 0 = v := ⟨_, rfl⟩
          have bf365 := ib_1_0 hIm3
          rw [ef365] at bf365
          obtain ⟨f366, ef366⟩ : ∃ v, m3 1 1 = v := ⟨_, rfl⟩
          have bf366 := ib_1_1 hIm3
          rw [ef366] at bf366
          obtain ⟨f367, ef367⟩ : ∃ v, m3 1 2 = v := ⟨_, rfl⟩
          have bf367 := ib_1_2 hIm3
          rw [ef367] at bf367
          refine zw_C zr_0_913 (Or.inl rfl) zm_124 rfl rfl ⟨Nat.le_of_ble_eq_true rfl, Nat.le_of_ble_eq_true rfl, Nat.le_of_ble_eq_true rfl, rfl, by decide⟩ (by omega) (th_124 (d := d - 1) (by omega) hIm3  (g0 := f365) (g1 := f366) (g2 := f367)  (F6 := m3 6) (F7 := m3 7) (F8 := m3 8) ef365 ef366 ef367 rfl rfl rfl  ) ?_
          rintro _ m368 ⟨r369, rfl, hr369a, hr369b, hIm368, gm368, po0_r369⟩
          have hFm368 : zFr W_0 m0 m368 := hFm3.trans gm368 rfl
          have km368_1_0 : m368 1 0 = f365 := (gm368 1 0 rfl).trans ef365
          have km368_1_1 : m368 1 1 = f366 := (gm368 1 1 rfl).trans ef366
          have km368_1_2 : m368 1 2 = f367 := (gm368 1 2 rfl).trans ef367
          show zW E (d) 0 916 [(6, 0), (2, 0), (2, 69), (0, i2)] [(0, r369)] m368 Q
          refine zw_115 zr_0_916 rfl ?_
          refine zw_7 zr_0_917 rfl ?_
          obtain ⟨f370, ef370⟩ : ∃ v, m368 70 822 = v := ⟨_, rfl⟩
          have bf370 : 0 ≤ m368 70 822 ∧ m368 70 822 ≤ 10 := ib_70_players hIm368 (by omega)
          rw [ef370] at bf370
          refine zw_C zr_0_918 (Or.inl rfl) zm_198 rfl rfl ⟨Nat.le_of_ble_eq_true rfl, Nat.le_of_ble_eq_true rfl, Nat.le_of_ble_eq_true rfl, rfl, by decide⟩ (by omega) (th_198 (d := d - 1) (by omega) hIm368  (g0 := f370)  (F70 := m368 70) ef370 rfl  ) ?_
          rintro _ _ ⟨r371, rfl, hr371a, hr371b, rfl, po0_r371⟩
          show zW E (d) 0 921 [(6, 0), (2, 0), (2, 69), (0, i2)] [(0, r371)] m368 Q
          have hkz372_0 := zk_fr hv0lp18_4 gm368
          have hqz373 := zq_rounds hIm3 hv0lp18_4 gm368 ef365 ef366 ef367 po0_r369 ef370 po0_r371
          have hfz374_0 := zfr_fr hv1lp18_4 gm368
          clear po0_r369
          refine zw_115 zr_0_921 rfl ?_
          refine zw_42 zr_0_922 ?_
          refine zw_15 (c := 6) (L' := [(6, 0), (2, 0), (2, 69), (0, (i2 + 6))]) zr_0_1239 rfl (by decide) (by omega) rfl ?_
          refine zw_42 zr_0_1242 ?_
          exact zw_less (L := [(6, 0), (2, 0), (2, 69), (0, (i2 + 6))]) ⟨Or.inr rfl, Or.inr rfl, Or.inr rfl, Or.inr rfl, trivial⟩ (ihlp18_4 ((i2 + 6)) m368 hIm368 hFm368   (by omega) (by omega) (by assumption) (by assumption) (by omega))
        by_cases h377 : x9 = 23
        · refine zw_111 (t := 925) zr_0_33 (by rw [h377]; rfl) ?_
          refine zw_7 zr_0_925 rfl ?_
          refine zw_7s zr_0_926 rfl ?_
          refine zw_3 zr_0_927 rfl ?_
          refine zw_push zr_0_928 ?_
          refine zw_16 zr_0_929 (by omega) ?_
          refine zw_100 zr_0_930 rfl (by omega) (by omega) ?_
          intro x378 ex378 hx378a hx378b
          refine zw_C zr_0_931 (Or.inl rfl) zm_125 rfl rfl ⟨Nat.le_of_ble_eq_true rfl, Nat.le_of_ble_eq_true rfl, Nat.le_of_ble_eq_true rfl, rfl, by decide⟩ (by omega) (th_125 (d := d - 1) (by omega) hIm3 (a0 := x378)      (by omega) ) ?_
          rintro _ m379 ⟨r380, rfl, hr380a, hr380b, hIm379, gm379⟩
          have hFm379 : zFr W_0 m0 m379 := hFm3.trans gm379 rfl
          show zW E (d) 0 934 [(6, 0), (2, 0), (2, 69), (0, i2)] [(0, r380)] m379 Q
          refine zw_115 zr_0_934 rfl ?_
          refine zw_7 zr_0_935 rfl ?_
          refine zw_7s zr_0_936 rfl ?_
          refine zw_3 zr_0_937 rfl ?_
          refine zw_push zr_0_938 ?_
          refine zw_16 zr_0_939 (by omega) ?_
          refine zw_100k zr_0_940 rfl (by omega) (by omega) ex378.symm ?_
          refine zw_C zr_0_941 (Or.inl rfl) zm_199 rfl rfl ⟨Nat.le_of_ble_eq_true rfl, Nat.le_of_ble_eq_true rfl, Nat.le_of_ble_eq_true rfl, rfl, by decide⟩ (by omega) (th_199 (d := d - 1) (by omega) hIm379 (a0 := x378)      (by omega) ) ?_
          rintro _ m381 ⟨r382, rfl, hr382a, hr382b, hIm381, gm381⟩
          have hFm381 : zFr W_0 m0 m381 := hFm379.trans gm381 rfl
          show zW E (d) 0 944 [(6, 0), (2, 0), (2, 69), (0, i2)] [(0, r382)] m381 Q
          have hkz383_0 := zk_fr hv0lp18_4 gm379
          have hkz383_1 := zk_fr hkz383_0 gm381
          have hfz384_0 := zfr_fr hv1lp18_4 gm379
          have hfz384_1 := zfr_fr hfz384_0 gm381
          refine zw_115 zr_0_944 rfl ?_
          refine zw_42 zr_0_945 ?_
          refine zw_15 (c := 6) (L' := [(6, 0), (2, 0), (2, 69), (0, (i2 + 6))]) zr_0_1239 rfl (by decide) (by omega) rfl ?_
          refine zw_42 zr_0_1242 ?_
          exact zw_less (L := [(6, 0), (2, 0), (2, 69), (0, (i2 + 6))]) ⟨Or.inr rfl, Or.inr rfl, Or.inr rfl, Or.inr rfl, trivial⟩ (ihlp18_4 ((i2 + 6)) m381 hIm381 hFm381   (by omega) (by omega) (by assumption) (by assumption) (by omega))
        by_cases h387 : x9 = 24
        · refine zw_111 (t := 948) zr_0_33 (by rw [h387]; rfl) ?_
          refine zw_7 zr_0_948 rfl ?_
          refine zw_7s zr_0_949 rfl ?_
          refine zw_3 zr_0_950 rfl ?_
          refine zw_push zr_0_951 ?_
          refine zw_16 zr_0_952 (by omega) ?_
          refine zw_100 zr_0_953 rfl (by omega) (by omega) ?_
          intro x388 ex388 hx388a hx388b
          refine zw_7s zr_0_954 rfl ?_
          refine zw_3 zr_0_955 rfl ?_
          refine zw_push zr_0_956 ?_
          refine zw_16 zr_0_957 (by omega) ?_
          refine zw_100 zr_0_958 rfl (by omega) (by omega) ?_
          intro x389 ex389 hx389a hx389b
          refine zw_7s zr_0_959 rfl ?_
          refine zw_3 zr_0_960 rfl ?_
          refine zw_push zr_0_961 ?_
          refine zw_16 zr_0_962 (by omega) ?_
          refine zw_100 zr_0_963 rfl (by omega) (by omega) ?_
          intro x390 ex390 hx390a hx390b
          refine zw_7s zr_0_964 rfl ?_
          refine zw_3 zr_0_965 rfl ?_
          refine zw_push zr_0_966 ?_
          refine zw_16 zr_0_967 (by omega) ?_
          refine zw_100 zr_0_968 rfl (by omega) (by omega) ?_
          intro x391 ex391 hx391a hx391b
          obtain ⟨f392, ef392⟩ : ∃ v, m3 1 0 = v := ⟨_, rfl⟩
          have bf392 := ib_1_0 hIm3
          rw [ef392] at bf392
          obtain ⟨f393, ef393⟩ : ∃ v, m3 42 0 = v := ⟨_, rfl⟩
          have bf393 := hIm3.fl (c := 42) (k := 0) rfl
          rw [ef393] at bf393
          obtain ⟨f394, ef394⟩ : ∃ v, m3 42 1 = v := ⟨_, rfl⟩
          have bf394 := hIm3.fl (c := 42) (k := 1) rfl
          rw [ef394] at bf394
          refine zw_C zr_0_969 (Or.inl rfl) zm_126 rfl rfl ⟨Nat.le_of_ble_eq_true rfl, Nat.le_of_ble_eq_true rfl, Nat.le_of_ble_eq_true rfl, rfl, by decide⟩ (by omega) (th_126 (d := d - 1) (by omega) hIm3 (a0 := x388) (a1 := x389) (a2 := x390) (a3 := x391) (g0 := f392) (g1 := f393) (g2 := f394)  (F6 := m3 6) (F7 := m3 7) (F8 := m3 8) ef392 ef393 ef394 rfl rfl rfl (by omega) (by omega) (by omega) (by omega) ) ?_
          rintro _ m395 ⟨r396, rfl, hr396a, hr396b, hIm395, gm395, po0_r396, po1_r396⟩
          have hFm395 : zFr W_0 m0 m395 := hFm3.trans gm395 rfl
          have km395_1_0 : m395 1 0 = f392 := (gm395 1 0 rfl).trans ef392
          show zW E (d) 0 972 [(6, 0), (2, 0), (2, 69), (0, i2)] [(0, r396)] m395 Q
          refine zw_115 zr_0_972 rfl ?_
          refine zw_7 zr_0_973 rfl ?_
          refine zw_7s zr_0_974 rfl ?_
          refine zw_3 zr_0_975 rfl ?_
          refine zw_push zr_0_976 ?_
          refine zw_16 zr_0_977 (by omega) ?_
          refine zw_100k zr_0_978 rfl (by omega) (by omega) ex388.symm ?_
          refine zw_7s zr_0_979 rfl ?_
          refine zw_3 zr_0_980 rfl ?_
          refine zw_push zr_0_981 ?_
          refine zw_16 zr_0_982 (by omega) ?_
          refine zw_100k zr_0_983 rfl (by omega) (by omega) ex389.symm ?_
          refine zw_7s zr_0_984 rfl ?_
          refine zw_3 zr_0_985 rfl ?_
          refine zw_push zr_0_986 ?_
          refine zw_16 zr_0_987 (by omega) ?_
          refine zw_100k zr_0_988 rfl (by omega) (by omega) ex390.symm ?_
          refine zw_7s zr_0_989 rfl ?_
          refine zw_3 zr_0_990 rfl ?_
          refine zw_push zr_0_991 ?_
          refine zw_16 zr_0_992 (by omega) ?_
          refine zw_100k zr_0_993 rfl (by omega) (by omega) ex391.symm ?_
          obtain ⟨f397, ef397⟩ : ∃ v, m395 70 822 = v := ⟨_, rfl⟩
          have bf397 : 0 ≤ m395 70 822 ∧ m395 70 822 ≤ 10 := ib_70_players hIm395 (by omega)
          rw [ef397] at bf397
          obtain ⟨f398, ef398⟩ : ∃ v, m395 69 3 = v := ⟨_, rfl⟩
          have bf398 := hIm395.fl (c := 69) (k := 3) rfl
          rw [ef398] at bf398
          obtain ⟨f399, ef399⟩ : ∃ v, m395 69 4 = v := ⟨_, rfl⟩
          have bf399 := hIm395.fl (c := 69) (k := 4) rfl
          rw [ef399] at bf399
          refine zw_C zr_0_994 (Or.inl rfl) zm_202 rfl rfl ⟨Nat.le_of_ble_eq_true rfl, Nat.le_of_ble_eq_true rfl, Nat.le_of_ble_eq_true rfl, rfl, by decide⟩ (by omega) (th_202 (d := d - 1) (by omega) hIm395 (a0 := x388) (a1 := x389) (a2 := x390) (a3 := x391) (g0 := f397) (g1 := f398) (g2 := f399)  (F70 := m395 70) ef397 ef398 ef399 rfl (by omega) (by omega) (by omega) (by omega) ) ?_
          rintro _ m400 ⟨r401, rfl, hr401a, hr401b, hIm400, gm400, po0_r401, po1_r401⟩
          have hFm400 : zFr W_0 m0 m400 := hFm395.trans gm400 rfl
          have km400_1_0 : m400 1 0 = f392 := (gm400 1 0 rfl).trans km395_1_0
          have km400_70_822 : m400 70 822 = f397 := (gm400 70 822 rfl).trans ef397
          show zW E (d) 0 997 [(6, 0), (2, 0), (2, 69), (0, i2)] [(0, r401)] m400 Q
          have hkz402_0 := zk_fr hv0lp18_4 gm395
          have hkz402_1 := zk_fr hkz402_0 gm400
          have hqz403 := zq_even hIm3 hv0lp18_4 gm395 ef392 ef393 ef394 po0_r396 po1_r396 ef397 ef398 ef399 po0_r401 po1_r401
          have hfz404 := zfr_2 (zf_even hIm3 hv0lp18_4 hv1lp18_4 gm395 ef392 ef393 ef394 po0_r396 po1_r396 ef397 ef398 ef399 po0_r401 po1_r401) gm400
          refine zw_115 zr_0_997 rfl ?_
          refine zw_42 zr_0_998 ?_
          refine zw_15 (c := 6) (L' := [(6, 0), (2, 0), (2, 69), (0, (i2 + 6))]) zr_0_1239 rfl (by decide) (by omega) rfl ?_
          refine zw_42 zr_0_1242 ?_
          exact zw_less (L := [(6, 0), (2, 0), (2, 69), (0, (i2 + 6))]) ⟨Or.inr rfl, Or.inr rfl, Or.inr rfl, Or.inr rfl, trivial⟩ (ihlp18_4 ((i2 + 6)) m400 hIm400 hFm400   (by omega) (by omega) (by assumption) (by assumption) (by omega))
        by_cases h407 : x9 = 25
        · refine zw_111 (t := 1001) zr_0_33 (by rw [h407]; rfl) ?_
          refine zw_7 zr_0_1001 rfl ?_
          refine zw_C zr_0_1002 (Or.inl rfl) zm_127 rfl rfl ⟨Nat.le_of_ble_eq_true rfl, Nat.le_of_ble_eq_true rfl, Nat.le_of_ble_eq_true rfl, rfl, by decide⟩ (by omega) (th_127 (d := d - 1) (by omega) hIm3        ) ?_
          rintro _ _ ⟨r408, rfl, hr408a, hr408b, rfl⟩
          show zW E (d) 0 1005 [(6, 0), (2, 0), (2, 69), (0, i2)] [(0, r408)] m3 Q
          refine zw_115 zr_0_1005 rfl ?_
          refine zw_7 zr_0_1006 rfl ?_
          refine zw_C zr_0_1007 (Or.inl rfl) zm_203 rfl rfl ⟨Nat.le_of_ble_eq_true rfl, Nat.le_of_ble_eq_true rfl, Nat.le_of_ble_eq_true rfl, rfl, by decide⟩ (by omega) (th_203 (d := d - 1) (by omega) hIm3        ) ?_
          rintro _ _ ⟨r409, rfl, hr409a, hr409b, rfl⟩
          show zW E (d) 0 1010 [(6, 0), (2, 0), (2, 69), (0, i2)] [(0, r409)] m3 Q
          refine zw_115 zr_0_1010 rfl ?_
          refine zw_42 zr_0_1011 ?_
          refine zw_15 (c := 6) (L' := [(6, 0), (2, 0), (2, 69), (0, (i2 + 6))]) zr_0_1239 rfl (by decide) (by omega) rfl ?_
          refine zw_42 zr_0_1242 ?_
          exact zw_less (L := [(6, 0), (2, 0), (2, 69), (0, (i2 + 6))]) ⟨Or.inr rfl, Or.inr rfl, Or.inr rfl, Or.inr rfl, trivial⟩ (ihlp18_4 ((i2 + 6)) m3 hIm3 hFm3   (by omega) (by omega) (by assumption) (by assumption) (by omega))
        by_cases h414 : x9 = 26
        · refine zw_111 (t := 1014) zr_0_33 (by rw [h414]; rfl) ?_
          refine zw_7 zr_0_1014 rfl ?_
          refine zw_7s zr_0_1015 rfl ?_
          refine zw_3 zr_0_1016 rfl ?_
          refine zw_push zr_0_1017 ?_
          refine zw_16 zr_0_1018 (by omega) ?_
          refine zw_100 zr_0_1019 rfl (by omega) (by omega) ?_
          intro x415 ex415 hx415a hx415b
          refine zw_7s zr_0_1020 rfl ?_
          refine zw_3 zr_0_1021 rfl ?_
          refine zw_push zr_0_1022 ?_
          refine zw_16 zr_0_1023 (by omega) ?_
          refine zw_100 zr_0_1024 rfl (by omega) (by omega) ?_
          intro x416 ex416 hx416a hx416b
          refine zw_7s zr_0_1025 rfl ?_
          refine zw_3 zr_0_1026 rfl ?_
          refine zw_push zr_0_1027 ?_
          refine zw_16 zr_0_1028 (by omega) ?_
          refine zw_100 zr_0_1029 rfl (by omega) (by omega) ?_
          intro x417 ex417 hx417a hx417b
          refine zw_7s zr_0_1030 rfl ?_
          refine zw_3 zr_0_1031 rfl ?_
          refine zw_push zr_0_1032 ?_
          refine zw_16 zr_0_1033 (by omega) ?_
          refine zw_100 zr_0_1034 rfl (by omega) (by omega) ?_
          intro x418 ex418 hx418a hx418b
          obtain ⟨f419, ef419⟩ : ∃ v, m3 1 0 = v := ⟨_, rfl⟩
          have bf419 := ib_1_0 hIm3
          rw [ef419] at bf419
          refine zw_C zr_0_1035 (Or.inl rfl) zm_129 rfl rfl ⟨Nat.le_of_ble_eq_true rfl, Nat.le_of_ble_eq_true rfl, Nat.le_of_ble_eq_true rfl, rfl, by decide⟩ (by omega) (th_129 (d := d - 1) (by omega) hIm3 (a0 := x415) (a1 := x416) (a2 := x417) (a3 := x418) (g0 := f419)  (F3 := m3 3) (F4 := m3 4) ef419 rfl rfl (by omega) (by omega) (by omega) (by omega) ) ?_
          rintro _ m420 ⟨r421, rfl, hr421a, hr421b, hIm420, gm420, po0_r421, po1_r421, po2_r421⟩
          have hFm420 : zFr W_0 m0 m420 := hFm3.trans gm420 rfl
          have km420_1_0 : m420 1 0 = f419 := (gm420 1 0 rfl).trans ef419
          show zW E (d) 0 1038 [(6, 0), (2, 0), (2, 69), (0, i2)] [(0, r421)] m420 Q
          refine zw_115 zr_0_1038 rfl ?_
          refine zw_7 zr_0_1039 rfl ?_
          refine zw_7s zr_0_1040 rfl ?_
          refine zw_3 zr_0_1041 rfl ?_
          refine zw_push zr_0_1042 ?_
          refine zw_16 zr_0_1043 (by omega) ?_
          refine zw_100k zr_0_1044 rfl (by omega) (by omega) ex415.symm ?_
          refine zw_7s zr_0_1045 rfl ?_
          refine zw_3 zr_0_1046 rfl ?_
          refine zw_push zr_0_1047 ?_
          refine zw_16 zr_0_1048 (by omega) ?_
          refine zw_100k zr_0_1049 rfl (by omega) (by omega) ex416.symm ?_
          refine zw_7s zr_0_1050 rfl ?_
          refine zw_3 zr_0_1051 rfl ?_
          refine zw_push zr_0_1052 ?_
          refine zw_16 zr_0_1053 (by omega) ?_
          refine zw_100k zr_0_1054 rfl (by omega) (by omega) ex417.symm ?_
          refine zw_7s zr_0_1055 rfl ?_
          refine zw_3 zr_0_1056 rfl ?_
          refine zw_push zr_0_1057 ?_
          refine zw_16 zr_0_1058 (by omega) ?_
          refine zw_100k zr_0_1059 rfl (by omega) (by omega) ex418.symm ?_
          obtain ⟨f422, ef422⟩ : ∃ v, m420 70 822 = v := ⟨_, rfl⟩
          have bf422 : 0 ≤ m420 70 822 ∧ m420 70 822 ≤ 10 := ib_70_players hIm420 (by omega)
          rw [ef422] at bf422
          refine zw_C zr_0_1060 (Or.inl rfl) zm_204 rfl rfl ⟨Nat.le_of_ble_eq_true rfl, Nat.le_of_ble_eq_true rfl, Nat.le_of_ble_eq_true rfl, rfl, by decide⟩ (by omega) (th_204 (d := d - 1) (by omega) hIm420 (a0 := x415) (a1 := x416) (a2 := x417) (a3 := x418) (g0 := f422)  (F70 := m420 70) ef422 rfl (by omega) (by omega) (by omega) (by omega) ) ?_
          rintro _ m423 ⟨r424, rfl, hr424a, hr424b, hIm423, gm423, po0_r424, po1_r424⟩
          have hFm423 : zFr W_0 m0 m423 := hFm420.trans gm423 rfl
          have km423_1_0 : m423 1 0 = f419 := (gm423 1 0 rfl).trans km420_1_0
          show zW E (d) 0 1063 [(6, 0), (2, 0), (2, 69), (0, i2)] [(0, r424)] m423 Q
          obtain ⟨hkz425, hrz425⟩ := zk_moves hIm3 hv0lp18_4 gm420 ef419 po0_r421 po1_r421 po2_r421 gm423 ef422 po0_r424 po1_r424
          have hfz426_0 := zfr_fr hv1lp18_4 gm420
          have hfz426_1 := zfr_fr hfz426_0 gm423
          refine zw_115 zr_0_1063 rfl ?_
          refine zw_42 zr_0_1064 ?_
          refine zw_15 (c := 6) (L' := [(6, 0), (2, 0), (2, 69), (0, (i2 + 6))]) zr_0_1239 rfl (by decide) (by omega) rfl ?_
          refine zw_42 zr_0_1242 ?_
          exact zw_less (L := [(6, 0), (2, 0), (2, 69), (0, (i2 + 6))]) ⟨Or.inr rfl, Or.inr rfl, Or.inr rfl, Or.inr rfl, trivial⟩ (ihlp18_4 ((i2 + 6)) m423 hIm423 hFm423   (by omega) (by omega) (by assumption) (by assumption) (by omega))
        by_cases h429 : x9 = 27
        · refine zw_111 (t := 1067) zr_0_33 (by rw [h429]; rfl) ?_
          refine zw_7 zr_0_1067 rfl ?_
          refine zw_7s zr_0_1068 rfl ?_
          refine zw_3 zr_0_1069 rfl ?_
          refine zw_push zr_0_1070 ?_
          refine zw_16 zr_0_1071 (by omega) ?_
          refine zw_100 zr_0_1072 rfl (by omega) (by omega) ?_
          intro x430 ex430 hx430a hx430b
          refine zw_7s zr_0_1073 rfl ?_
          refine zw_3 zr_0_1074 rfl ?_
          refine zw_push zr_0_1075 ?_
          refine zw_16 zr_0_1076 (by omega) ?_
          refine zw_100 zr_0_1077 rfl (by omega) (by omega) ?_
          intro x431 ex431 hx431a hx431b
          refine zw_C zr_0_1078 (Or.inl rfl) zm_130 rfl rfl ⟨Nat.le_of_ble_eq_true rfl, Nat.le_of_ble_eq_true rfl, Nat.le_of_ble_eq_true rfl, rfl, by decide⟩ (by omega) (th_130 (d := d - 1) (by omega) hIm3 (a0 := x430) (a1 := x431)   (F13 := m3 13)  rfl (by omega) (by omega) ) ?_
          rintro _ m432 ⟨r433, rfl, hr433a, hr433b, hIm432, gm432, po0_r433, po1_r433⟩
          have hFm432 : zFr W_0 m0 m432 := hFm3.trans gm432 rfl
          show zW E (d) 0 1081 [(6, 0), (2, 0), (2, 69), (0, i2)] [(0, r433)] m432 Q
          refine zw_115 zr_0_1081 rfl ?_
          refine zw_7 zr_0_1082 rfl ?_
          refine zw_7s zr_0_1083 rfl ?_
          refine zw_3 zr_0_1084 rfl ?_
          refine zw_push zr_0_1085 ?_
          refine zw_16 zr_0_1086 (by omega) ?_
          refine zw_100k zr_0_1087 rfl (by omega) (by omega) ex430.symm ?_
          refine zw_7s zr_0_1088 rfl ?_
          refine zw_3 zr_0_1089 rfl ?_
          refine zw_push zr_0_1090 ?_
          refine zw_16 zr_0_1091 (by omega) ?_
          refine zw_100k zr_0_1092 rfl (by omega) (by omega) ex431.symm ?_
          refine zw_C zr_0_1093 (Or.inl rfl) zm_205 rfl rfl ⟨Nat.le_of_ble_eq_true rfl, Nat.le_of_ble_eq_true rfl, Nat.le_of_ble_eq_true rfl, rfl, by decide⟩ (by omega) (th_205 (d := d - 1) (by omega) hIm432 (a0 := x430) (a1 := x431)   (F70 := m432 70)  rfl (by omega) (by omega) ) ?_
          rintro _ m434 ⟨r435, rfl, hr435a, hr435b, hIm434, gm434, po0_r435, po1_r435⟩
          have hFm434 : zFr W_0 m0 m434 := hFm432.trans gm434 rfl
          show zW E (d) 0 1096 [(6, 0), (2, 0), (2, 69), (0, i2)] [(0, r435)] m434 Q
          obtain ⟨hkz436, hrz436⟩ := zk_weight hIm3 hv0lp18_4 gm432 po0_r433 po1_r433 gm434 po0_r435 po1_r435
          have hfz437_0 := zfr_fr hv1lp18_4 gm432
          have hfz437_1 := zfr_fr hfz437_0 gm434
          refine zw_115 zr_0_1096 rfl ?_
          refine zw_42 zr_0_1097 ?_
          refine zw_15 (c := 6) (L' := [(6, 0), (2, 0), (2, 69), (0, (i2 + 6))]) zr_0_1239 rfl (by decide) (by omega) rfl ?_
          refine zw_42 zr_0_1242 ?_
          exact zw_less (L := [(6, 0), (2, 0), (2, 69), (0, (i2 + 6))]) ⟨Or.inr rfl, Or.inr rfl, Or.inr rfl, Or.inr rfl, trivial⟩ (ihlp18_4 ((i2 + 6)) m434 hIm434 hFm434   (by omega) (by omega) (by assumption) (by assumption) (by omega))
        by_cases h440 : x9 = 28
        · refine zw_111 (t := 1100) zr_0_33 (by rw [h440]; rfl) ?_
          refine zw_7 zr_0_1100 rfl ?_
          refine zw_7s zr_0_1101 rfl ?_
          refine zw_3 zr_0_1102 rfl ?_
          refine zw_push zr_0_1103 ?_
          refine zw_16 zr_0_1104 (by omega) ?_
          refine zw_100 zr_0_1105 rfl (by omega) (by omega) ?_
          intro x441 ex441 hx441a hx441b
          refine zw_7s zr_0_1106 rfl ?_
          refine zw_3 zr_0_1107 rfl ?_
          refine zw_push zr_0_1108 ?_
          refine zw_16 zr_0_1109 (by omega) ?_
          refine zw_100 zr_0_1110 rfl (by omega) (by omega) ?_
          intro x442 ex442 hx442a hx442b
          obtain ⟨f443, ef443⟩ : ∃ v, m3 1 0 = v := ⟨_, rfl⟩
          have bf443 := ib_1_0 hIm3
          rw [ef443] at bf443
          obtain ⟨f444, ef444⟩ : ∃ v, m3 42 0 = v := ⟨_, rfl⟩
          have bf444 := hIm3.fl (c := 42) (k := 0) rfl
          rw [ef444] at bf444
          obtain ⟨f445, ef445⟩ : ∃ v, m3 42 1 = v := ⟨_, rfl⟩
          have bf445 := hIm3.fl (c := 42) (k := 1) rfl
          rw [ef445] at bf445
          refine zw_C zr_0_1111 (Or.inl rfl) zm_132 rfl rfl ⟨Nat.le_of_ble_eq_true rfl, Nat.le_of_ble_eq_true rfl, Nat.le_of_ble_eq_true rfl, rfl, by decide⟩ (by omega) (th_132 (d := d - 1) (by omega) hIm3 (a0 := x441) (a1 := x442) (g0 := f443) (g1 := f444) (g2 := f445)  (F3 := m3 3) (F4 := m3 4) (F13 := m3 13) ef443 ef444 ef445 rfl rfl rfl (by omega) (by omega) ) ?_
          rintro _ m446 ⟨r447, rfl, hr447a, hr447b, hIm446, gm446, po0_r447, po1_r447⟩
          have hFm446 : zFr W_0 m0 m446 := hFm3.trans gm446 rfl
          have km446_1_0 : m446 1 0 = f443 := (gm446 1 0 rfl).trans ef443
          show zW E (d) 0 1114 [(6, 0), (2, 0), (2, 69), (0, i2)] [(0, r447)] m446 Q
          refine zw_115 zr_0_1114 rfl ?_
          refine zw_7 zr_0_1115 rfl ?_
          refine zw_7s zr_0_1116 rfl ?_
          refine zw_3 zr_0_1117 rfl ?_
          refine zw_push zr_0_1118 ?_
          refine zw_16 zr_0_1119 (by omega) ?_
          refine zw_100k zr_0_1120 rfl (by omega) (by omega) ex441.symm ?_
          refine zw_7s zr_0_1121 rfl ?_
          refine zw_3 zr_0_1122 rfl ?_
          refine zw_push zr_0_1123 ?_
          refine zw_16 zr_0_1124 (by omega) ?_
          refine zw_100k zr_0_1125 rfl (by omega) (by omega) ex442.symm ?_
          obtain ⟨f448, ef448⟩ : ∃ v, m446 70 822 = v := ⟨_, rfl⟩
          have bf448 : 0 ≤ m446 70 822 ∧ m446 70 822 ≤ 10 := ib_70_players hIm446 (by omega)
          rw [ef448] at bf448
          obtain ⟨f449, ef449⟩ : ∃ v, m446 69 3 = v := ⟨_, rfl⟩
          have bf449 := hIm446.fl (c := 69) (k := 3) rfl
          rw [ef449] at bf449
          obtain ⟨f450, ef450⟩ : ∃ v, m446 69 4 = v := ⟨_, rfl⟩
          have bf450 := hIm446.fl (c := 69) (k := 4) rfl
          rw [ef450] at bf450
          refine zw_C zr_0_1126 (Or.inl rfl) zm_206 rfl rfl ⟨Nat.le_of_ble_eq_true rfl, Nat.le_of_ble_eq_true rfl, Nat.le_of_ble_eq_true rfl, rfl, by decide⟩ (by omega) (th_206 (d := d - 1) (by omega) hIm446 (a0 := x441) (a1 := x442) (g0 := f448) (g1 := f449) (g2 := f450)  (F70 := m446 70) ef448 ef449 ef450 rfl (by omega) (by omega) (qK_mv (zk_fr hv0lp18_4 gm446))) ?_
          rintro _ m452 ⟨r453, rfl, hr453a, hr453b, hIm452, gm452, po0_r453, po1_r453⟩
          have hFm452 : zFr W_0 m0 m452 := hFm446.trans gm452 rfl
          have km452_1_0 : m452 1 0 = f443 := (gm452 1 0 rfl).trans km446_1_0
          have km452_70_822 : m452 70 822 = f448 := (gm452 70 822 rfl).trans ef448
          show zW E (d) 0 1129 [(6, 0), (2, 0), (2, 69), (0, i2)] [(0, r453)] m452 Q
          have hkz454_0 := zk_fr hv0lp18_4 gm446
          have hkz454_1 := zk_fr hkz454_0 gm452
          have hqz455 := zq_share hIm3 hv0lp18_4 gm446 ef443 ef444 ef445 po0_r447 po1_r447 ef448 ef449 ef450 po0_r453 po1_r453
          have hfz456 := zfr_2 (zf_share hIm3 hv0lp18_4 hv1lp18_4 gm446 ef443 ef444 ef445 po0_r447 po1_r447 ef448 ef449 ef450 po0_r453 po1_r453) gm452
          refine zw_115 zr_0_1129 rfl ?_
          refine zw_42 zr_0_1130 ?_
          refine zw_15 (c := 6) (L' := [(6, 0), (2, 0), (2, 69), (0, (i2 + 6))]) zr_0_1239 rfl (by decide) (by omega) rfl ?_
          refine zw_42 zr_0_1242 ?_
          exact zw_less (L := [(6, 0), (2, 0), (2, 69), (0, (i2 + 6))]) ⟨Or.inr rfl, Or.inr rfl, Or.inr rfl, Or.inr rfl, trivial⟩ (ihlp18_4 ((i2 + 6)) m452 hIm452 hFm452   (by omega) (by omega) (by assumption) (by assumption) (by omega))
        by_cases h459 : x9 = 29
        · refine zw_111 (t := 1133) zr_0_33 (by rw [h459]; rfl) ?_
          refine zw_7 zr_0_1133 rfl ?_
          refine zw_7s zr_0_1134 rfl ?_
          refine zw_3 zr_0_1135 rfl ?_
          refine zw_push zr_0_1136 ?_
          refine zw_16 zr_0_1137 (by omega) ?_
          refine zw_100 zr_0_1138 rfl (by omega) (by omega) ?_
          intro x460 ex460 hx460a hx460b
          obtain ⟨f461, ef461⟩ : ∃ v, m3 42 0 = v := ⟨_, rfl⟩
          have bf461 := hIm3.fl (c := 42) (k := 0) rfl
          rw [ef461] at bf461
          obtain ⟨f462, ef462⟩ : ∃ v, m3 42 1 = v := ⟨_, rfl⟩
          have bf462 := hIm3.fl (c := 42) (k := 1) rfl
          rw [ef462] at bf462
          refine zw_C zr_0_1139 (Or.inl rfl) zm_133 rfl rfl ⟨Nat.le_of_ble_eq_true rfl, Nat.le_of_ble_eq_true rfl, Nat.le_of_ble_eq_true rfl, rfl, by decide⟩ (by omega) (th_133 (d := d - 1) (by omega) hIm3 (a0 := x460) (g0 := f461) (g1 := f462)   ef461 ef462  (by omega) ) ?_
          rintro _ _ ⟨r463, rfl, hr463a, hr463b, rfl, po0_r463⟩
          show zW E (d) 0 1142 [(6, 0), (2, 0), (2, 69), (0, i2)] [(1, r463)] m3 Q
          refine zw_116 zr_0_1142 rfl ?_
          refine zw_7 zr_0_1143 rfl ?_
          refine zw_7s zr_0_1144 rfl ?_
          refine zw_3 zr_0_1145 rfl ?_
          refine zw_push zr_0_1146 ?_
          refine zw_16 zr_0_1147 (by omega) ?_
          refine zw_100k zr_0_1148 rfl (by omega) (by omega) ex460.symm ?_
          obtain ⟨f464, ef464⟩ : ∃ v, m3 69 3 = v := ⟨_, rfl⟩
          have bf464 := hIm3.fl (c := 69) (k := 3) rfl
          rw [ef464] at bf464
          obtain ⟨f465, ef465⟩ : ∃ v, m3 69 4 = v := ⟨_, rfl⟩
          have bf465 := hIm3.fl (c := 69) (k := 4) rfl
          rw [ef465] at bf465
          refine zw_C zr_0_1149 (Or.inl rfl) zm_207 rfl rfl ⟨Nat.le_of_ble_eq_true rfl, Nat.le_of_ble_eq_true rfl, Nat.le_of_ble_eq_true rfl, rfl, by decide⟩ (by omega) (th_207 (d := d - 1) (by omega) hIm3 (a0 := x460) (g0 := f464) (g1 := f465)   ef464 ef465  (by omega) ) ?_
          rintro _ _ ⟨r466, rfl, hr466a, hr466b, rfl, po0_r466⟩
          show zW E (d) 0 1152 [(6, 0), (2, 0), (2, 69), (0, i2)] [(1, r466)] m3 Q
          have hqz468 := zf_part (m1 := m0) (m2 := m0) hv1lp18_4 ef461 ef462 po0_r463 ef464 ef465 po0_r466
          refine zw_116 zr_0_1152 rfl ?_
          refine zw_42 zr_0_1153 ?_
          refine zw_15 (c := 6) (L' := [(6, 0), (2, 0), (2, 69), (0, (i2 + 6))]) zr_0_1239 rfl (by decide) (by omega) rfl ?_
          refine zw_42 zr_0_1242 ?_
          exact zw_less (L := [(6, 0), (2, 0), (2, 69), (0, (i2 + 6))]) ⟨Or.inr rfl, Or.inr rfl, Or.inr rfl, Or.inr rfl, trivial⟩ (ihlp18_4 ((i2 + 6)) m3 hIm3 hFm3   (by omega) (by omega) (by assumption) (by assumption) (by omega))
        by_cases h471 : x9 = 30
        · refine zw_111 (t := 1156) zr_0_33 (by rw [h471]; rfl) ?_
          refine zw_7 zr_0_1156 rfl ?_
          refine zw_7s zr_0_1157 rfl ?_
          refine zw_3 zr_0_1158 rfl ?_
          refine zw_push zr_0_1159 ?_
          refine zw_16 zr_0_1160 (by omega) ?_
          refine zw_100 zr_0_1161 rfl (by omega) (by omega) ?_
          intro x472 ex472 hx472a hx472b
          refine zw_C zr_0_1162 (Or.inl rfl) zm_134 rfl rfl ⟨Nat.le_of_ble_eq_true rfl, Nat.le_of_ble_eq_true rfl, Nat.le_of_ble_eq_true rfl, rfl, by decide⟩ (by omega) (th_134 (d := d - 1) (by omega) hIm3 (a0 := x472)      (by omega) ) ?_
          rintro _ m473 ⟨r474, rfl, hr474a, hr474b, hIm473, gm473, po0_r474⟩
          have hFm473 : zFr W_0 m0 m473 := hFm3.trans gm473 rfl
          show zW E (d) 0 1165 [(6, 0), (2, 0), (2, 69), (0, i2)] [(0, r474)] m473 Q
          refine zw_115 zr_0_1165 rfl ?_
          refine zw_7 zr_0_1166 rfl ?_
          refine zw_7s zr_0_1167 rfl ?_
          refine zw_3 zr_0_1168 rfl ?_
          refine zw_push zr_0_1169 ?_
          refine zw_16 zr_0_1170 (by omega) ?_
          refine zw_100k zr_0_1171 rfl (by omega) (by omega) ex472.symm ?_
          refine zw_C zr_0_1172 (Or.inl rfl) zm_208 rfl rfl ⟨Nat.le_of_ble_eq_true rfl, Nat.le_of_ble_eq_true rfl, Nat.le_of_ble_eq_true rfl, rfl, by decide⟩ (by omega) (th_208 (d := d - 1) (by omega) hIm473 (a0 := x472)   (F70 := m473 70) (F71 := m473 71) (F72 := m473 72)  rfl rfl rfl (by omega) ) ?_
          rintro _ m475 ⟨r476, rfl, hr476a, hr476b, hIm475, gm475, po0_r476⟩
          have hFm475 : zFr W_0 m0 m475 := hFm473.trans gm475 rfl
          show zW E (d) 0 1175 [(6, 0), (2, 0), (2, 69), (0, i2)] [(0, r476)] m475 Q
          obtain ⟨hkz477, hrz477⟩ := zk_image hv0lp18_4 gm473 po0_r474 gm475 po0_r476
          have hfz478_0 := zfr_fr hv1lp18_4 gm473
          have hfz478_1 := zfr_fr hfz478_0 gm475
          refine zw_115 zr_0_1175 rfl ?_
          refine zw_42 zr_0_1176 ?_
          refine zw_15 (c := 6) (L' := [(6, 0), (2, 0), (2, 69), (0, (i2 + 6))]) zr_0_1239 rfl (by decide) (by omega) rfl ?_
          refine zw_42 zr_0_1242 ?_
          exact zw_less (L := [(6, 0), (2, 0), (2, 69), (0, (i2 + 6))]) ⟨Or.inr rfl, Or.inr rfl, Or.inr rfl, Or.inr rfl, trivial⟩ (ihlp18_4 ((i2 + 6)) m475 hIm475 hFm475   (by omega) (by omega) (by assumption) (by assumption) (by omega))
        by_cases h481 : x9 = 31
        · refine zw_111 (t := 1179) zr_0_33 (by rw [h481]; rfl) ?_
          refine zw_7 zr_0_1179 rfl ?_
          refine zw_7s zr_0_1180 rfl ?_
          refine zw_3 zr_0_1181 rfl ?_
          refine zw_push zr_0_1182 ?_
          refine zw_16 zr_0_1183 (by omega) ?_
          refine zw_100 zr_0_1184 rfl (by omega) (by omega) ?_
          intro x482 ex482 hx482a hx482b
          refine zw_C zr_0_1185 (Or.inl rfl) zm_135 rfl rfl ⟨Nat.le_of_ble_eq_true rfl, Nat.le_of_ble_eq_true rfl, Nat.le_of_ble_eq_true rfl, rfl, by decide⟩ (by omega) (th_135 (d := d - 1) (by omega) hIm3 (a0 := x482)   (F41 := m3 41)  rfl (by omega) ) ?_
          rintro _ m483 ⟨r484, rfl, hr484a, hr484b, hIm483, gm483, po0_r484⟩
          have hFm483 : zFr W_0 m0 m483 := hFm3.trans gm483 rfl
          show zW E (d) 0 1188 [(6, 0), (2, 0), (2, 69), (0, i2)] [(0, r484)] m483 Q
          refine zw_115 zr_0_1188 rfl ?_
          refine zw_7 zr_0_1189 rfl ?_
          refine zw_7s zr_0_1190 rfl ?_
          refine zw_3 zr_0_1191 rfl ?_
          refine zw_push zr_0_1192 ?_
          refine zw_16 zr_0_1193 (by omega) ?_
          refine zw_100k zr_0_1194 rfl (by omega) (by omega) ex482.symm ?_
          refine zw_C zr_0_1195 (Or.inl rfl) zm_209 rfl rfl ⟨Nat.le_of_ble_eq_true rfl, Nat.le_of_ble_eq_true rfl, Nat.le_of_ble_eq_true rfl, rfl, by decide⟩ (by omega) (th_209 (d := d - 1) (by omega) hIm483 (a0 := x482)   (F70 := m483 70) (F71 := m483 71) (F72 := m483 72)  rfl rfl rfl (by omega) ) ?_
          rintro _ m485 ⟨r486, rfl, hr486a, hr486b, hIm485, gm485, po0_r486⟩
          have hFm485 : zFr W_0 m0 m485 := hFm483.trans gm485 rfl
          show zW E (d) 0 1198 [(6, 0), (2, 0), (2, 69), (0, i2)] [(0, r486)] m485 Q
          obtain ⟨hkz487, hrz487⟩ := zk_from hv0lp18_4 gm483 po0_r484 gm485 po0_r486
          have hfz488_0 := zfr_fr hv1lp18_4 gm483
          have hfz488_1 := zfr_fr hfz488_0 gm485
          refine zw_115 zr_0_1198 rfl ?_
          refine zw_42 zr_0_1199 ?_
          refine zw_15 (c := 6) (L' := [(6, 0), (2, 0), (2, 69), (0, (i2 + 6))]) zr_0_1239 rfl (by decide) (by omega) rfl ?_
          refine zw_42 zr_0_1242 ?_
          exact zw_less (L := [(6, 0), (2, 0), (2, 69), (0, (i2 + 6))]) ⟨Or.inr rfl, Or.inr rfl, Or.inr rfl, Or.inr rfl, trivial⟩ (ihlp18_4 ((i2 + 6)) m485 hIm485 hFm485   (by omega) (by omega) (by assumption) (by assumption) (by omega))
        by_cases h491 : x9 = 32
        · refine zw_111 (t := 1202) zr_0_33 (by rw [h491]; rfl) ?_
          refine zw_7 zr_0_1202 rfl ?_
          refine zw_7s zr_0_1203 rfl ?_
          refine zw_3 zr_0_1204 rfl ?_
          refine zw_push zr_0_1205 ?_
          refine zw_16 zr_0_1206 (by omega) ?_
          refine zw_100 zr_0_1207 rfl (by omega) (by omega) ?_
          intro x492 ex492 hx492a hx492b
          obtain ⟨f493, ef493⟩ : ∃ v, m3 1 0 = v := ⟨_, rfl⟩
          have bf493 := ib_1_0 hIm3
          rw [ef493] at bf493
          obtain ⟨f494, ef494⟩ : ∃ v, m3 1 1 = v := ⟨_, rfl⟩
          have bf494 := ib_1_1 hIm3
          rw [ef494] at bf494
          obtain ⟨f495, ef495⟩ : ∃ v, m3 1 2 = v := ⟨_, rfl⟩
          have bf495 := ib_1_2 hIm3
          rw [ef495] at bf495
          obtain ⟨f496, ef496⟩ : ∃ v, m3 1 3 = v := ⟨_, rfl⟩
          have bf496 := ib_1_3 hIm3
          rw [ef496] at bf496
          refine zw_C zr_0_1208 (Or.inl rfl) zm_137 rfl rfl ⟨Nat.le_of_ble_eq_true rfl, Nat.le_of_ble_eq_true rfl, Nat.le_of_ble_eq_true rfl, rfl, by decide⟩ (by omega) (th_137 (d := d - 1) (by omega) hIm3 (a0 := x492) (g0 := f493) (g1 := f494) (g2 := f495) (g3 := f496)   ef493 ef494 ef495 ef496  (by omega) ) ?_
          rintro _ _ ⟨r497, rfl, hr497a, hr497b, rfl, po0_r497⟩
          show zW E (d) 0 1211 [(6, 0), (2, 0), (2, 69), (0, i2)] [(0, r497)] m3 Q
          refine zw_115 zr_0_1211 rfl ?_
          refine zw_7 zr_0_1212 rfl ?_
          refine zw_7s zr_0_1213 rfl ?_
          refine zw_3 zr_0_1214 rfl ?_
          refine zw_push zr_0_1215 ?_
          refine zw_16 zr_0_1216 (by omega) ?_
          refine zw_100k zr_0_1217 rfl (by omega) (by omega) ex492.symm ?_
          obtain ⟨f498, ef498⟩ : ∃ v, m3 70 822 = v := ⟨_, rfl⟩
          have bf498 : 0 ≤ m3 70 822 ∧ m3 70 822 ≤ 10 := ib_70_players hIm3 (by omega)
          rw [ef498] at bf498
          obtain ⟨f499, ef499⟩ : ∃ v, m3 70 823 = v := ⟨_, rfl⟩
          have bf499 : 0 ≤ m3 70 823 ∧ m3 70 823 ≤ 60 := ib_70_meetings hIm3 (by omega)
          rw [ef499] at bf499
          refine zw_C zr_0_1218 (Or.inl rfl) zm_210 rfl rfl ⟨Nat.le_of_ble_eq_true rfl, Nat.le_of_ble_eq_true rfl, Nat.le_of_ble_eq_true rfl, rfl, by decide⟩ (by omega) (th_210 (d := d - 1) (by omega) hIm3 (a0 := x492) (g0 := f498) (g1 := f499)  (F70 := m3 70) ef498 ef499 rfl (by omega) ) ?_
          rintro _ _ ⟨r500, rfl, hr500a, hr500b, rfl, po0_r500⟩
          show zW E (d) 0 1221 [(6, 0), (2, 0), (2, 69), (0, i2)] [(0, r500)] m3 Q
          have hqz502 := zq_count hIm3 hv0lp18_4 (zFr.rfl (W := [])) ef493 ef494 ef495 ef496 po0_r497 ef498 ef499 po0_r500
          refine zw_115 zr_0_1221 rfl ?_
          refine zw_42 zr_0_1222 ?_
          refine zw_15 (c := 6) (L' := [(6, 0), (2, 0), (2, 69), (0, (i2 + 6))]) zr_0_1239 rfl (by decide) (by omega) rfl ?_
          refine zw_42 zr_0_1242 ?_
          exact zw_less (L := [(6, 0), (2, 0), (2, 69), (0, (i2 + 6))]) ⟨Or.inr rfl, Or.inr rfl, Or.inr rfl, Or.inr rfl, trivial⟩ (ihlp18_4 ((i2 + 6)) m3 hIm3 hFm3   (by omega) (by omega) (by assumption) (by assumption) (by omega))
        by_cases h506 : x9 = 33
        · refine zw_111 (t := 1225) zr_0_33 (by rw [h506]; rfl) ?_
          refine zw_7 zr_0_1225 rfl ?_
          obtain ⟨f507, ef507⟩ : ∃ v, m3 1 0 = v := ⟨_, rfl⟩
          have bf507 := ib_1_0 hIm3
          rw [ef507] at bf507
          obtain ⟨f508, ef508⟩ : ∃ v, m3 1 1 = v := ⟨_, rfl⟩
          have bf508 := ib_1_1 hIm3
          rw [ef508] at bf508
          obtain ⟨f509, ef509⟩ : ∃ v, m3 1 2 = v := ⟨_, rfl⟩
          have bf509 := ib_1_2 hIm3
          rw [ef509] at bf509
          obtain ⟨f510, ef510⟩ : ∃ v, m3 1 3 = v := ⟨_, rfl⟩
          have bf510 := ib_1_3 hIm3
          rw [ef510] at bf510
          obtain ⟨f511, ef511⟩ : ∃ v, m3 1 4 = v := ⟨_, rfl⟩
          have bf511 := ib_1_4 hIm3
          rw [ef511] at bf511
          obtain ⟨f512, ef512⟩ : ∃ v, m3 1 5 = v := ⟨_, rfl⟩
          have bf512 := ib_1_5 hIm3
          rw [ef512] at bf512
          obtain ⟨f513, ef513⟩ : ∃ v, m3 42 0 = v := ⟨_, rfl⟩
          have bf513 := hIm3.fl (c := 42) (k := 0) rfl
          rw [ef513] at bf513
          obtain ⟨f514, ef514⟩ : ∃ v, m3 42 1 = v := ⟨_, rfl⟩
          have bf514 := hIm3.fl (c := 42) (k := 1) rfl
          rw [ef514] at bf514
          refine zw_C zr_0_1226 (Or.inl rfl) zm_138 rfl rfl ⟨Nat.le_of_ble_eq_true rfl, Nat.le_of_ble_eq_true rfl, Nat.le_of_ble_eq_true rfl, rfl, by decide⟩ (by omega) (th_138 (d := d - 1) (by omega) hIm3  (g0 := f507) (g1 := f508) (g2 := f509) (g3 := f510) (g4 := f511) (g5 := f512) (g6 := f513) (g7 := f514)  (F2 := m3 2) (F3 := m3 3) (F4 := m3 4) (F5 := m3 5) (F6 := m3 6) (F7 := m3 7) (F8 := m3 8) (F9 := m3 9) (F10 := m3 10) (F11 := m3 11) (F12 := m3 12) (F13 := m3 13) ef507 ef508 ef509 ef510 ef511 ef512 ef513 ef514 rfl rfl rfl rfl rfl rfl rfl rfl rfl rfl rfl rfl  ) ?_
          rintro _ _ ⟨r515, rfl, hr515a, hr515b, rfl, po0_r515⟩
          show zW E (d) 0 1229 [(6, 0), (2, 0), (2, 69), (0, i2)] [(1, r515)] m3 Q
          refine zw_7 zr_0_1229 rfl ?_
          obtain ⟨f516, ef516⟩ : ∃ v, m3 70 822 = v := ⟨_, rfl⟩
          have bf516 : 0 ≤ m3 70 822 ∧ m3 70 822 ≤ 10 := ib_70_players hIm3 (by omega)
          rw [ef516] at bf516
          obtain ⟨f517, ef517⟩ : ∃ v, m3 70 823 = v := ⟨_, rfl⟩
          have bf517 : 0 ≤ m3 70 823 ∧ m3 70 823 ≤ 60 := ib_70_meetings hIm3 (by omega)
          rw [ef517] at bf517
          obtain ⟨f518, ef518⟩ : ∃ v, m3 69 3 = v := ⟨_, rfl⟩
          have bf518 := hIm3.fl (c := 69) (k := 3) rfl
          rw [ef518] at bf518
          obtain ⟨f519, ef519⟩ : ∃ v, m3 69 4 = v := ⟨_, rfl⟩
          have bf519 := hIm3.fl (c := 69) (k := 4) rfl
          rw [ef519] at bf519
          refine zw_C zr_0_1230 (Or.inl rfl) zm_212 rfl rfl ⟨Nat.le_of_ble_eq_true rfl, Nat.le_of_ble_eq_true rfl, Nat.le_of_ble_eq_true rfl, rfl, by decide⟩ (by omega) (th_212 (d := d - 1) (by omega) hIm3  (g0 := f516) (g1 := f517) (g2 := f518) (g3 := f519)  (F70 := m3 70) ef516 ef517 ef518 ef519 rfl  ) ?_
          rintro _ _ ⟨r520, rfl, hr520a, hr520b, rfl, po0_r520⟩
          show zW E (d) 0 1233 [(6, 0), (2, 0), (2, 69), (0, i2)] [(1, r520), (1, r515)] m3 Q
          have hqz523 := zq_digest hIm3 hv0lp18_4 hv1lp18_4 (zFr.rfl (W := [])) ef507 ef508 ef509 ef510 ef511 ef512 ef513 ef514 po0_r515 ef516 ef517 ef518 ef519 po0_r520
          refine zw_39_1 zr_0_1233 zr_0_1234 ?_ ?_
          · intro h524
            refine zw_15 (c := 6) (L' := [(6, 0), (2, 0), (2, 69), (0, (i2 + 6))]) zr_0_1239 rfl (by decide) (by omega) rfl ?_
            refine zw_42 zr_0_1242 ?_
            exact zw_less (L := [(6, 0), (2, 0), (2, 69), (0, (i2 + 6))]) ⟨Or.inr rfl, Or.inr rfl, Or.inr rfl, Or.inr rfl, trivial⟩ (ihlp18_4 ((i2 + 6)) m3 hIm3 hFm3   (by omega) (by omega) (by assumption) (by assumption) (by omega))
          · intro h527
            refine zw_push zr_0_1237 ?_
            refine zw_R zr_0_1238 (by decide) zm_0 (v := (0, 0)) (zRetB (by omega)) ?_
            rw [← hQ]; exact ⟨_, rfl, by omega, by omega, hIm3, hFm3⟩
        refine zw_111d (t := 1239) zr_0_33 (by omega) rfl ?_
        refine zw_15 (c := 6) (L' := [(6, 0), (2, 0), (2, 69), (0, (i2 + 6))]) zr_0_1239 rfl (by decide) (by omega) rfl ?_
        refine zw_42 zr_0_1242 ?_
        exact zw_less (L := [(6, 0), (2, 0), (2, 69), (0, (i2 + 6))]) ⟨Or.inr rfl, Or.inr rfl, Or.inr rfl, Or.inr rfl, trivial⟩ (ihlp18_4 ((i2 + 6)) m3 hIm3 hFm3   (by omega) (by omega) (by assumption) (by assumption) (by omega))
  exact lp18_4 _ (0) m0 hI0 hF0   (by omega) (by omega) (hK0) (hK1) (Nat.lt_succ_self _)
