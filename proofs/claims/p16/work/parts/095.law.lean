abbrev W_0 : List (Nat × Nat) := [(1, 0), (1, 1), (1, 2), (1, 3), (1, 4), (1, 5), (2, 1000), (3, 1000), (4, 1000), (5, 1000), (6, 1000), (7, 1000), (8, 1000), (9, 1000), (10, 1000), (11, 1000), (12, 1000), (13, 1000), (15, 0), (15, 1), (15, 2), (15, 3), (15, 4), (15, 5), (16, 1000), (17, 1000), (18, 1000), (19, 1000), (20, 1000), (21, 1000), (22, 1000), (23, 1000), (24, 1000), (25, 1000), (26, 1000), (27, 1000), (28, 0), (28, 1), (28, 2), (28, 3), (28, 4), (28, 5), (29, 1000), (30, 1000), (31, 1000), (32, 1000), (33, 1000), (34, 1000), (35, 1000), (36, 1000), (37, 1000), (38, 1000), (39, 1000), (40, 1000), (41, 1000), (42, 0), (42, 1), (43, 5), (44, 1000), (45, 1), (45, 5), (45, 6), (45, 7), (45, 8), (45, 9), (46, 1000), (47, 1000), (48, 1000), (49, 1000), (50, 1000), (51, 1000), (52, 0), (52, 1), (52, 2), (53, 1000), (54, 1000), (55, 5), (56, 1000), (57, 1000), (58, 1000), (59, 1000), (61, 1000), (62, 1000), (63, 0), (64, 1000), (65, 1000), (66, 1000), (67, 1000), (68, 1000), (69, 3), (69, 4), (69, 5), (69, 6), (69, 7), (69, 9), (69, 11), (69, 13), (69, 17), (69, 18), (69, 23), (69, 24), (70, 1000), (71, 1000), (72, 1000), (73, 1000), (74, 1000), (75, 1000), (76, 1000), (77, 1000), (78, 1000), (79, 1000), (80, 1000), (81, 1000), (82, 1000), (83, 1000), (84, 1000)]
set_option maxHeartbeats 40000000 in
theorem th_0 {E : zE} {d : Nat} {m0 : zM} (hd : 112 ≤ d) (hI0 : zInv m0) {n1 : Int} (hn1 : (E.1 : Int) = n1) (hn2 : n1 ≤ 3072) : zW E d 0 18 [(6, 0), (2, 0), (2, 69), (0, 0)] [] m0 (fun v m' => ∃ r : Int, v = (0, r) ∧ 1 ≤ r ∧ r ≤ 1 ∧ zInv m' ∧ zFr W_0 m0 m') := by
  have hF0 : zFr W_0 m0 m0 := zFr.rfl
  generalize hQ : (fun (v : zV) (m' : zM) => ∃ r : Int, v = (0, r) ∧ 1 ≤ r ∧ r ≤ 1 ∧ zInv m' ∧ zFr W_0 m0 m') = Q
  have lp18_4 : ∀ (nlp18_4 : Nat) (i2 : Int) (m3 : zM), zInv m3 → zFr W_0 m0 m3 → 0 ≤ i2 → i2 ≤ 9999 → (3078 - i2).toNat < nlp18_4 → zW E (d) 0 18 [(6, 0), (2, 0), (2, 69), (0, i2)] [] m3 Q := by
    intro nlp18_4
    induction nlp18_4 with
    | zero =>
      intros
      exact absurd (by assumption : _ < 0) (Nat.not_lt_zero _)
    | succ nlp18_4 ihlp18_4 =>
      intro i2 m3 hIm3 hFm3 li2 ui2 hmlp18_4
      refine zw_3 zr_0_18 rfl ?_
      refine zw_7s zr_0_19 rfl ?_
      refine zw_101n zr_0_20 rfl (by omega) hn1 ?_
      refine zw_push zr_0_21 ?_
      refine zw_17 zr_0_23 (by omega) ?_
      refine zw_41_2 zr_0_24 ?_ ?_
      · intro h6
        refine zw_push zr_0_1244 ?_
        refine zw_R zr_0_1245 (by decide) zm_0 (v := (0, 1)) (zRetB (by omega)) ?_
        rw [← hQ]; exact ⟨_, rfl, by omega, by omega, hIm3, hFm3⟩
      · intro h7
        refine zw_7s zr_0_27 rfl ?_
        refine zw_3 zr_0_28 rfl ?_
        refine zw_100 zr_0_29 rfl (by omega) (by omega) ?_
        intro x8 ex8 hx8a hx8b
        clear ex8
        refine zw_push zr_0_30 ?_
        refine zw_21m zr_0_32 (by omega) (by omega) ?_
        intro x9 hx9a hx9b
        by_cases h10 : x9 = 0
        · refine zw_111 (t := 184) zr_0_33 (by rw [h10]; rfl) ?_
          refine zw_7 zr_0_184 rfl ?_
          refine zw_7s zr_0_185 rfl ?_
          refine zw_3 zr_0_186 rfl ?_
          refine zw_push zr_0_187 ?_
          refine zw_16 zr_0_188 (by omega) ?_
          refine zw_100 zr_0_189 rfl (by omega) (by omega) ?_
          intro x11 ex11 hx11a hx11b
          clear ex11
          refine zw_C zr_0_190 (Or.inl rfl) zm_99 rfl rfl ⟨Nat.le_of_ble_eq_true rfl, Nat.le_of_ble_eq_true rfl, Nat.le_of_ble_eq_true rfl, rfl, by decide⟩ (by omega) (th_99 (d := d - 1) (by omega) hIm3 (a0 := x11)   (by omega)) ?_
          rintro _ m12 ⟨r13, rfl, hr13a, hr13b, hIm12, gm12⟩
          have hFm12 : zFr W_0 m0 m12 := hFm3.trans gm12 rfl
          show zW E (d) 0 193 [(6, 0), (2, 0), (2, 69), (0, i2)] [(0, r13)] m12 Q
          refine zw_115 zr_0_193 rfl ?_
          refine zw_7 zr_0_194 rfl ?_
          refine zw_7s zr_0_195 rfl ?_
          refine zw_3 zr_0_196 rfl ?_
          refine zw_push zr_0_197 ?_
          refine zw_16 zr_0_198 (by omega) ?_
          refine zw_100 zr_0_199 rfl (by omega) (by omega) ?_
          intro x14 ex14 hx14a hx14b
          clear ex14
          refine zw_C zr_0_200 (Or.inl rfl) zm_145 rfl rfl ⟨Nat.le_of_ble_eq_true rfl, Nat.le_of_ble_eq_true rfl, Nat.le_of_ble_eq_true rfl, rfl, by decide⟩ (by omega) (th_145 (d := d - 1) (by omega) hIm12 (a0 := x14)   (by omega)) ?_
          rintro _ m15 ⟨r16, rfl, hr16a, hr16b, hIm15, gm15⟩
          have hFm15 : zFr W_0 m0 m15 := hFm12.trans gm15 rfl
          show zW E (d) 0 203 [(6, 0), (2, 0), (2, 69), (0, i2)] [(0, r16)] m15 Q
          refine zw_115 zr_0_203 rfl ?_
          refine zw_42 zr_0_204 ?_
          refine zw_15 (c := 6) (L' := [(6, 0), (2, 0), (2, 69), (0, (i2 + 6))]) zr_0_1238 rfl (by decide) (by omega) rfl ?_
          refine zw_42 zr_0_1241 ?_
          exact zw_less (L := [(6, 0), (2, 0), (2, 69), (0, (i2 + 6))]) ⟨Or.inr rfl, Or.inr rfl, Or.inr rfl, Or.inr rfl, trivial⟩ (ihlp18_4 ((i2 + 6)) m15 hIm15 hFm15   (by omega) (by omega) (by omega))
        by_cases h17 : x9 = 1
        · refine zw_111 (t := 207) zr_0_33 (by rw [h17]; rfl) ?_
          refine zw_7 zr_0_207 rfl ?_
          refine zw_7s zr_0_208 rfl ?_
          refine zw_3 zr_0_209 rfl ?_
          refine zw_push zr_0_210 ?_
          refine zw_16 zr_0_211 (by omega) ?_
          refine zw_100 zr_0_212 rfl (by omega) (by omega) ?_
          intro x18 ex18 hx18a hx18b
          clear ex18
          refine zw_7s zr_0_213 rfl ?_
          refine zw_3 zr_0_214 rfl ?_
          refine zw_push zr_0_215 ?_
          refine zw_16 zr_0_216 (by omega) ?_
          refine zw_100 zr_0_217 rfl (by omega) (by omega) ?_
          intro x19 ex19 hx19a hx19b
          clear ex19
          refine zw_7s zr_0_218 rfl ?_
          refine zw_3 zr_0_219 rfl ?_
          refine zw_push zr_0_220 ?_
          refine zw_16 zr_0_221 (by omega) ?_
          refine zw_100 zr_0_222 rfl (by omega) (by omega) ?_
          intro x20 ex20 hx20a hx20b
          clear ex20
          refine zw_7s zr_0_223 rfl ?_
          refine zw_3 zr_0_224 rfl ?_
          refine zw_push zr_0_225 ?_
          refine zw_16 zr_0_226 (by omega) ?_
          refine zw_100 zr_0_227 rfl (by omega) (by omega) ?_
          intro x21 ex21 hx21a hx21b
          clear ex21
          refine zw_7s zr_0_228 rfl ?_
          refine zw_3 zr_0_229 rfl ?_
          refine zw_push zr_0_230 ?_
          refine zw_16 zr_0_231 (by omega) ?_
          refine zw_100 zr_0_232 rfl (by omega) (by omega) ?_
          intro x22 ex22 hx22a hx22b
          clear ex22
          refine zw_40_1 zr_0_233 ?_ ?_
          · intro h23
            refine zw_push zr_0_240 ?_
            refine zw_C zr_0_241 (Or.inl rfl) zm_102 rfl rfl ⟨Nat.le_of_ble_eq_true rfl, Nat.le_of_ble_eq_true rfl, Nat.le_of_ble_eq_true rfl, rfl, by decide⟩ (by omega) (th_102 (d := d - 1) (by omega) hIm3 (a0 := x18) (a1 := x19) (a2 := x20) (a3 := x21) (a4 := 0)   (by omega) (by omega) (by omega) (by omega) (by omega)) ?_
            rintro _ m24 ⟨r25, rfl, hr25a, hr25b, hIm24, gm24⟩
            have hFm24 : zFr W_0 m0 m24 := hFm3.trans gm24 rfl
            show zW E (d) 0 244 [(6, 0), (2, 0), (2, 69), (0, i2)] [(0, r25)] m24 Q
            refine zw_115 zr_0_244 rfl ?_
            refine zw_7 zr_0_245 rfl ?_
            refine zw_7s zr_0_246 rfl ?_
            refine zw_3 zr_0_247 rfl ?_
            refine zw_push zr_0_248 ?_
            refine zw_16 zr_0_249 (by omega) ?_
            refine zw_100 zr_0_250 rfl (by omega) (by omega) ?_
            intro x26 ex26 hx26a hx26b
            clear ex26
            refine zw_7s zr_0_251 rfl ?_
            refine zw_3 zr_0_252 rfl ?_
            refine zw_push zr_0_253 ?_
            refine zw_16 zr_0_254 (by omega) ?_
            refine zw_100 zr_0_255 rfl (by omega) (by omega) ?_
            intro x27 ex27 hx27a hx27b
            clear ex27
            refine zw_7s zr_0_256 rfl ?_
            refine zw_3 zr_0_257 rfl ?_
            refine zw_push zr_0_258 ?_
            refine zw_16 zr_0_259 (by omega) ?_
            refine zw_100 zr_0_260 rfl (by omega) (by omega) ?_
            intro x28 ex28 hx28a hx28b
            clear ex28
            refine zw_7s zr_0_261 rfl ?_
            refine zw_3 zr_0_262 rfl ?_
            refine zw_push zr_0_263 ?_
            refine zw_16 zr_0_264 (by omega) ?_
            refine zw_100 zr_0_265 rfl (by omega) (by omega) ?_
            intro x29 ex29 hx29a hx29b
            clear ex29
            refine zw_7s zr_0_266 rfl ?_
            refine zw_3 zr_0_267 rfl ?_
            refine zw_push zr_0_268 ?_
            refine zw_16 zr_0_269 (by omega) ?_
            refine zw_100 zr_0_270 rfl (by omega) (by omega) ?_
            intro x30 ex30 hx30a hx30b
            clear ex30
            refine zw_40_1 zr_0_271 ?_ ?_
            · intro h31
              refine zw_push zr_0_278 ?_
              refine zw_C zr_0_279 (Or.inl rfl) zm_146 rfl rfl ⟨Nat.le_of_ble_eq_true rfl, Nat.le_of_ble_eq_true rfl, Nat.le_of_ble_eq_true rfl, rfl, by decide⟩ (by omega) (th_146 (d := d - 1) (by omega) hIm24 (a0 := x26) (a1 := x27) (a2 := x28) (a3 := x29) (a4 := 0)   (by omega) (by omega) (by omega) (by omega) (by omega)) ?_
              rintro _ m32 ⟨r33, rfl, hr33a, hr33b, hIm32, gm32⟩
              have hFm32 : zFr W_0 m0 m32 := hFm24.trans gm32 rfl
              show zW E (d) 0 282 [(6, 0), (2, 0), (2, 69), (0, i2)] [(0, r33)] m32 Q
              refine zw_115 zr_0_282 rfl ?_
              refine zw_42 zr_0_283 ?_
              refine zw_15 (c := 6) (L' := [(6, 0), (2, 0), (2, 69), (0, (i2 + 6))]) zr_0_1238 rfl (by decide) (by omega) rfl ?_
              refine zw_42 zr_0_1241 ?_
              exact zw_less (L := [(6, 0), (2, 0), (2, 69), (0, (i2 + 6))]) ⟨Or.inr rfl, Or.inr rfl, Or.inr rfl, Or.inr rfl, trivial⟩ (ihlp18_4 ((i2 + 6)) m32 hIm32 hFm32   (by omega) (by omega) (by omega))
            · intro h34
              refine zw_push zr_0_274 ?_
              refine zw_42 zr_0_275 ?_
              refine zw_C zr_0_279 (Or.inl rfl) zm_146 rfl rfl ⟨Nat.le_of_ble_eq_true rfl, Nat.le_of_ble_eq_true rfl, Nat.le_of_ble_eq_true rfl, rfl, by decide⟩ (by omega) (th_146 (d := d - 1) (by omega) hIm24 (a0 := x26) (a1 := x27) (a2 := x28) (a3 := x29) (a4 := 1)   (by omega) (by omega) (by omega) (by omega) (by omega)) ?_
              rintro _ m35 ⟨r36, rfl, hr36a, hr36b, hIm35, gm35⟩
              have hFm35 : zFr W_0 m0 m35 := hFm24.trans gm35 rfl
              show zW E (d) 0 282 [(6, 0), (2, 0), (2, 69), (0, i2)] [(0, r36)] m35 Q
              refine zw_115 zr_0_282 rfl ?_
              refine zw_42 zr_0_283 ?_
              refine zw_15 (c := 6) (L' := [(6, 0), (2, 0), (2, 69), (0, (i2 + 6))]) zr_0_1238 rfl (by decide) (by omega) rfl ?_
              refine zw_42 zr_0_1241 ?_
              exact zw_less (L := [(6, 0), (2, 0), (2, 69), (0, (i2 + 6))]) ⟨Or.inr rfl, Or.inr rfl, Or.inr rfl, Or.inr rfl, trivial⟩ (ihlp18_4 ((i2 + 6)) m35 hIm35 hFm35   (by omega) (by omega) (by omega))
          · intro h37
            refine zw_push zr_0_236 ?_
            refine zw_42 zr_0_237 ?_
            refine zw_C zr_0_241 (Or.inl rfl) zm_102 rfl rfl ⟨Nat.le_of_ble_eq_true rfl, Nat.le_of_ble_eq_true rfl, Nat.le_of_ble_eq_true rfl, rfl, by decide⟩ (by omega) (th_102 (d := d - 1) (by omega) hIm3 (a0 := x18) (a1 := x19) (a2 := x20) (a3 := x21) (a4 := 1)   (by omega) (by omega) (by omega) (by omega) (by omega)) ?_
            rintro _ m38 ⟨r39, rfl, hr39a, hr39b, hIm38, gm38⟩
            have hFm38 : zFr W_0 m0 m38 := hFm3.trans gm38 rfl
            show zW E (d) 0 244 [(6, 0), (2, 0), (2, 69), (0, i2)] [(0, r39)] m38 Q
            refine zw_115 zr_0_244 rfl ?_
            refine zw_7 zr_0_245 rfl ?_
            refine zw_7s zr_0_246 rfl ?_
            refine zw_3 zr_0_247 rfl ?_
            refine zw_push zr_0_248 ?_
            refine zw_16 zr_0_249 (by omega) ?_
            refine zw_100 zr_0_250 rfl (by omega) (by omega) ?_
            intro x40 ex40 hx40a hx40b
            clear ex40
            refine zw_7s zr_0_251 rfl ?_
            refine zw_3 zr_0_252 rfl ?_
            refine zw_push zr_0_253 ?_
            refine zw_16 zr_0_254 (by omega) ?_
            refine zw_100 zr_0_255 rfl (by omega) (by omega) ?_
            intro x41 ex41 hx41a hx41b
            clear ex41
            refine zw_7s zr_0_256 rfl ?_
            refine zw_3 zr_0_257 rfl ?_
            refine zw_push zr_0_258 ?_
            refine zw_16 zr_0_259 (by omega) ?_
            refine zw_100 zr_0_260 rfl (by omega) (by omega) ?_
            intro x42 ex42 hx42a hx42b
            clear ex42
            refine zw_7s zr_0_261 rfl ?_
            refine zw_3 zr_0_262 rfl ?_
            refine zw_push zr_0_263 ?_
            refine zw_16 zr_0_264 (by omega) ?_
            refine zw_100 zr_0_265 rfl (by omega) (by omega) ?_
            intro x43 ex43 hx43a hx43b
            clear ex43
            refine zw_7s zr_0_266 rfl ?_
            refine zw_3 zr_0_267 rfl ?_
            refine zw_push zr_0_268 ?_
            refine zw_16 zr_0_269 (by omega) ?_
            refine zw_100 zr_0_270 rfl (by omega) (by omega) ?_
            intro x44 ex44 hx44a hx44b
            clear ex44
            refine zw_40_1 zr_0_271 ?_ ?_
            · intro h45
              refine zw_push zr_0_278 ?_
              refine zw_C zr_0_279 (Or.inl rfl) zm_146 rfl rfl ⟨Nat.le_of_ble_eq_true rfl, Nat.le_of_ble_eq_true rfl, Nat.le_of_ble_eq_true rfl, rfl, by decide⟩ (by omega) (th_146 (d := d - 1) (by omega) hIm38 (a0 := x40) (a1 := x41) (a2 := x42) (a3 := x43) (a4 := 0)   (by omega) (by omega) (by omega) (by omega) (by omega)) ?_
              rintro _ m46 ⟨r47, rfl, hr47a, hr47b, hIm46, gm46⟩
              have hFm46 : zFr W_0 m0 m46 := hFm38.trans gm46 rfl
              show zW E (d) 0 282 [(6, 0), (2, 0), (2, 69), (0, i2)] [(0, r47)] m46 Q
              refine zw_115 zr_0_282 rfl ?_
              refine zw_42 zr_0_283 ?_
              refine zw_15 (c := 6) (L' := [(6, 0), (2, 0), (2, 69), (0, (i2 + 6))]) zr_0_1238 rfl (by decide) (by omega) rfl ?_
              refine zw_42 zr_0_1241 ?_
              exact zw_less (L := [(6, 0), (2, 0), (2, 69), (0, (i2 + 6))]) ⟨Or.inr rfl, Or.inr rfl, Or.inr rfl, Or.inr rfl, trivial⟩ (ihlp18_4 ((i2 + 6)) m46 hIm46 hFm46   (by omega) (by omega) (by omega))
            · intro h48
              refine zw_push zr_0_274 ?_
              refine zw_42 zr_0_275 ?_
              refine zw_C zr_0_279 (Or.inl rfl) zm_146 rfl rfl ⟨Nat.le_of_ble_eq_true rfl, Nat.le_of_ble_eq_true rfl, Nat.le_of_ble_eq_true rfl, rfl, by decide⟩ (by omega) (th_146 (d := d - 1) (by omega) hIm38 (a0 := x40) (a1 := x41) (a2 := x42) (a3 := x43) (a4 := 1)   (by omega) (by omega) (by omega) (by omega) (by omega)) ?_
              rintro _ m49 ⟨r50, rfl, hr50a, hr50b, hIm49, gm49⟩
              have hFm49 : zFr W_0 m0 m49 := hFm38.trans gm49 rfl
              show zW E (d) 0 282 [(6, 0), (2, 0), (2, 69), (0, i2)] [(0, r50)] m49 Q
              refine zw_115 zr_0_282 rfl ?_
              refine zw_42 zr_0_283 ?_
              refine zw_15 (c := 6) (L' := [(6, 0), (2, 0), (2, 69), (0, (i2 + 6))]) zr_0_1238 rfl (by decide) (by omega) rfl ?_
              refine zw_42 zr_0_1241 ?_
              exact zw_less (L := [(6, 0), (2, 0), (2, 69), (0, (i2 + 6))]) ⟨Or.inr rfl, Or.inr rfl, Or.inr rfl, Or.inr rfl, trivial⟩ (ihlp18_4 ((i2 + 6)) m49 hIm49 hFm49   (by omega) (by omega) (by omega))
        by_cases h51 : x9 = 2
        · refine zw_111 (t := 286) zr_0_33 (by rw [h51]; rfl) ?_
          refine zw_7 zr_0_286 rfl ?_
          refine zw_7s zr_0_287 rfl ?_
          refine zw_3 zr_0_288 rfl ?_
          refine zw_push zr_0_289 ?_
          refine zw_16 zr_0_290 (by omega) ?_
          refine zw_100 zr_0_291 rfl (by omega) (by omega) ?_
          intro x52 ex52 hx52a hx52b
          clear ex52
          refine zw_7s zr_0_292 rfl ?_
          refine zw_3 zr_0_293 rfl ?_
          refine zw_push zr_0_294 ?_
          refine zw_16 zr_0_295 (by omega) ?_
          refine zw_100 zr_0_296 rfl (by omega) (by omega) ?_
          intro x53 ex53 hx53a hx53b
          clear ex53
          refine zw_7s zr_0_297 rfl ?_
          refine zw_3 zr_0_298 rfl ?_
          refine zw_push zr_0_299 ?_
          refine zw_16 zr_0_300 (by omega) ?_
          refine zw_100 zr_0_301 rfl (by omega) (by omega) ?_
          intro x54 ex54 hx54a hx54b
          clear ex54
          refine zw_40_1 zr_0_302 ?_ ?_
          · intro h55
            refine zw_push zr_0_309 ?_
            refine zw_C zr_0_310 (Or.inl rfl) zm_103 rfl rfl ⟨Nat.le_of_ble_eq_true rfl, Nat.le_of_ble_eq_true rfl, Nat.le_of_ble_eq_true rfl, rfl, by decide⟩ (by omega) (th_103 (d := d - 1) (by omega) hIm3 (a0 := x52) (a1 := x53) (a2 := 0)   (by omega) (by omega) (by omega)) ?_
            rintro _ m56 ⟨r57, rfl, hr57a, hr57b, hIm56, gm56⟩
            have hFm56 : zFr W_0 m0 m56 := hFm3.trans gm56 rfl
            show zW E (d) 0 313 [(6, 0), (2, 0), (2, 69), (0, i2)] [(0, r57)] m56 Q
            refine zw_115 zr_0_313 rfl ?_
            refine zw_7 zr_0_314 rfl ?_
            refine zw_7s zr_0_315 rfl ?_
            refine zw_3 zr_0_316 rfl ?_
            refine zw_push zr_0_317 ?_
            refine zw_16 zr_0_318 (by omega) ?_
            refine zw_100 zr_0_319 rfl (by omega) (by omega) ?_
            intro x58 ex58 hx58a hx58b
            clear ex58
            refine zw_7s zr_0_320 rfl ?_
            refine zw_3 zr_0_321 rfl ?_
            refine zw_push zr_0_322 ?_
            refine zw_16 zr_0_323 (by omega) ?_
            refine zw_100 zr_0_324 rfl (by omega) (by omega) ?_
            intro x59 ex59 hx59a hx59b
            clear ex59
            refine zw_7s zr_0_325 rfl ?_
            refine zw_3 zr_0_326 rfl ?_
            refine zw_push zr_0_327 ?_
            refine zw_16 zr_0_328 (by omega) ?_
            refine zw_100 zr_0_329 rfl (by omega) (by omega) ?_
            intro x60 ex60 hx60a hx60b
            clear ex60
            refine zw_40_1 zr_0_330 ?_ ?_
            · intro h61
              refine zw_push zr_0_337 ?_
              refine zw_C zr_0_338 (Or.inl rfl) zm_147 rfl rfl ⟨Nat.le_of_ble_eq_true rfl, Nat.le_of_ble_eq_true rfl, Nat.le_of_ble_eq_true rfl, rfl, by decide⟩ (by omega) (th_147 (d := d - 1) (by omega) hIm56 (a0 := x58) (a1 := x59) (a2 := 0)   (by omega) (by omega) (by omega)) ?_
              rintro _ m62 ⟨r63, rfl, hr63a, hr63b, hIm62, gm62⟩
              have hFm62 : zFr W_0 m0 m62 := hFm56.trans gm62 rfl
              show zW E (d) 0 341 [(6, 0), (2, 0), (2, 69), (0, i2)] [(0, r63)] m62 Q
              refine zw_115 zr_0_341 rfl ?_
              refine zw_42 zr_0_342 ?_
              refine zw_15 (c := 6) (L' := [(6, 0), (2, 0), (2, 69), (0, (i2 + 6))]) zr_0_1238 rfl (by decide) (by omega) rfl ?_
              refine zw_42 zr_0_1241 ?_
              exact zw_less (L := [(6, 0), (2, 0), (2, 69), (0, (i2 + 6))]) ⟨Or.inr rfl, Or.inr rfl, Or.inr rfl, Or.inr rfl, trivial⟩ (ihlp18_4 ((i2 + 6)) m62 hIm62 hFm62   (by omega) (by omega) (by omega))
            · intro h64
              refine zw_push zr_0_333 ?_
              refine zw_42 zr_0_334 ?_
              refine zw_C zr_0_338 (Or.inl rfl) zm_147 rfl rfl ⟨Nat.le_of_ble_eq_true rfl, Nat.le_of_ble_eq_true rfl, Nat.le_of_ble_eq_true rfl, rfl, by decide⟩ (by omega) (th_147 (d := d - 1) (by omega) hIm56 (a0 := x58) (a1 := x59) (a2 := 1)   (by omega) (by omega) (by omega)) ?_
              rintro _ m65 ⟨r66, rfl, hr66a, hr66b, hIm65, gm65⟩
              have hFm65 : zFr W_0 m0 m65 := hFm56.trans gm65 rfl
              show zW E (d) 0 341 [(6, 0), (2, 0), (2, 69), (0, i2)] [(0, r66)] m65 Q
              refine zw_115 zr_0_341 rfl ?_
              refine zw_42 zr_0_342 ?_
              refine zw_15 (c := 6) (L' := [(6, 0), (2, 0), (2, 69), (0, (i2 + 6))]) zr_0_1238 rfl (by decide) (by omega) rfl ?_
              refine zw_42 zr_0_1241 ?_
              exact zw_less (L := [(6, 0), (2, 0), (2, 69), (0, (i2 + 6))]) ⟨Or.inr rfl, Or.inr rfl, Or.inr rfl, Or.inr rfl, trivial⟩ (ihlp18_4 ((i2 + 6)) m65 hIm65 hFm65   (by omega) (by omega) (by omega))
          · intro h67
            refine zw_push zr_0_305 ?_
            refine zw_42 zr_0_306 ?_
            refine zw_C zr_0_310 (Or.inl rfl) zm_103 rfl rfl ⟨Nat.le_of_ble_eq_true rfl, Nat.le_of_ble_eq_true rfl, Nat.le_of_ble_eq_true rfl, rfl, by decide⟩ (by omega) (th_103 (d := d - 1) (by omega) hIm3 (a0 := x52) (a1 := x53) (a2 := 1)   (by omega) (by omega) (by omega)) ?_
            rintro _ m68 ⟨r69, rfl, hr69a, hr69b, hIm68, gm68⟩
            have hFm68 : zFr W_0 m0 m68 := hFm3.trans gm68 rfl
            show zW E (d) 0 313 [(6, 0), (2, 0), (2, 69), (0, i2)] [(0, r69)] m68 Q
            refine zw_115 zr_0_313 rfl ?_
            refine zw_7 zr_0_314 rfl ?_
            refine zw_7s zr_0_315 rfl ?_
            refine zw_3 zr_0_316 rfl ?_
            refine zw_push zr_0_317 ?_
            refine zw_16 zr_0_318 (by omega) ?_
            refine zw_100 zr_0_319 rfl (by omega) (by omega) ?_
            intro x70 ex70 hx70a hx70b
            clear ex70
            refine zw_7s zr_0_320 rfl ?_
            refine zw_3 zr_0_321 rfl ?_
            refine zw_push zr_0_322 ?_
            refine zw_16 zr_0_323 (by omega) ?_
            refine zw_100 zr_0_324 rfl (by omega) (by omega) ?_
            intro x71 ex71 hx71a hx71b
            clear ex71
            refine zw_7s zr_0_325 rfl ?_
            refine zw_3 zr_0_326 rfl ?_
            refine zw_push zr_0_327 ?_
            refine zw_16 zr_0_328 (by omega) ?_
            refine zw_100 zr_0_329 rfl (by omega) (by omega) ?_
            intro x72 ex72 hx72a hx72b
            clear ex72
            refine zw_40_1 zr_0_330 ?_ ?_
            · intro h73
              refine zw_push zr_0_337 ?_
              refine zw_C zr_0_338 (Or.inl rfl) zm_147 rfl rfl ⟨Nat.le_of_ble_eq_true rfl, Nat.le_of_ble_eq_true rfl, Nat.le_of_ble_eq_true rfl, rfl, by decide⟩ (by omega) (th_147 (d := d - 1) (by omega) hIm68 (a0 := x70) (a1 := x71) (a2 := 0)   (by omega) (by omega) (by omega)) ?_
              rintro _ m74 ⟨r75, rfl, hr75a, hr75b, hIm74, gm74⟩
              have hFm74 : zFr W_0 m0 m74 := hFm68.trans gm74 rfl
              show zW E (d) 0 341 [(6, 0), (2, 0), (2, 69), (0, i2)] [(0, r75)] m74 Q
              refine zw_115 zr_0_341 rfl ?_
              refine zw_42 zr_0_342 ?_
              refine zw_15 (c := 6) (L' := [(6, 0), (2, 0), (2, 69), (0, (i2 + 6))]) zr_0_1238 rfl (by decide) (by omega) rfl ?_
              refine zw_42 zr_0_1241 ?_
              exact zw_less (L := [(6, 0), (2, 0), (2, 69), (0, (i2 + 6))]) ⟨Or.inr rfl, Or.inr rfl, Or.inr rfl, Or.inr rfl, trivial⟩ (ihlp18_4 ((i2 + 6)) m74 hIm74 hFm74   (by omega) (by omega) (by omega))
            · intro h76
              refine zw_push zr_0_333 ?_
              refine zw_42 zr_0_334 ?_
              refine zw_C zr_0_338 (Or.inl rfl) zm_147 rfl rfl ⟨Nat.le_of_ble_eq_true rfl, Nat.le_of_ble_eq_true rfl, Nat.le_of_ble_eq_true rfl, rfl, by decide⟩ (by omega) (th_147 (d := d - 1) (by omega) hIm68 (a0 := x70) (a1 := x71) (a2 := 1)   (by omega) (by omega) (by omega)) ?_
              rintro _ m77 ⟨r78, rfl, hr78a, hr78b, hIm77, gm77⟩
              have hFm77 : zFr W_0 m0 m77 := hFm68.trans gm77 rfl
              show zW E (d) 0 341 [(6, 0), (2, 0), (2, 69), (0, i2)] [(0, r78)] m77 Q
              refine zw_115 zr_0_341 rfl ?_
              refine zw_42 zr_0_342 ?_
              refine zw_15 (c := 6) (L' := [(6, 0), (2, 0), (2, 69), (0, (i2 + 6))]) zr_0_1238 rfl (by decide) (by omega) rfl ?_
              refine zw_42 zr_0_1241 ?_
              exact zw_less (L := [(6, 0), (2, 0), (2, 69), (0, (i2 + 6))]) ⟨Or.inr rfl, Or.inr rfl, Or.inr rfl, Or.inr rfl, trivial⟩ (ihlp18_4 ((i2 + 6)) m77 hIm77 hFm77   (by omega) (by omega) (by omega))
        by_cases h79 : x9 = 3
        · refine zw_111 (t := 345) zr_0_33 (by rw [h79]; rfl) ?_
          refine zw_7 zr_0_345 rfl ?_
          refine zw_7s zr_0_346 rfl ?_
          refine zw_3 zr_0_347 rfl ?_
          refine zw_push zr_0_348 ?_
          refine zw_16 zr_0_349 (by omega) ?_
          refine zw_100 zr_0_350 rfl (by omega) (by omega) ?_
          intro x80 ex80 hx80a hx80b
          clear ex80
          refine zw_7s zr_0_351 rfl ?_
          refine zw_3 zr_0_352 rfl ?_
          refine zw_push zr_0_353 ?_
          refine zw_16 zr_0_354 (by omega) ?_
          refine zw_100 zr_0_355 rfl (by omega) (by omega) ?_
          intro x81 ex81 hx81a hx81b
          clear ex81
          refine zw_C zr_0_356 (Or.inl rfl) zm_105 rfl rfl ⟨Nat.le_of_ble_eq_true rfl, Nat.le_of_ble_eq_true rfl, Nat.le_of_ble_eq_true rfl, rfl, by decide⟩ (by omega) (th_105 (d := d - 1) (by omega) hIm3 (a0 := x80) (a1 := x81)   (by omega) (by omega)) ?_
          rintro _ m82 ⟨r83, rfl, hr83a, hr83b, hIm82, gm82⟩
          have hFm82 : zFr W_0 m0 m82 := hFm3.trans gm82 rfl
          show zW E (d) 0 359 [(6, 0), (2, 0), (2, 69), (0, i2)] [(0, r83)] m82 Q
          refine zw_115 zr_0_359 rfl ?_
          refine zw_7 zr_0_360 rfl ?_
          refine zw_7s zr_0_361 rfl ?_
          refine zw_3 zr_0_362 rfl ?_
          refine zw_push zr_0_363 ?_
          refine zw_16 zr_0_364 (by omega) ?_
          refine zw_100 zr_0_365 rfl (by omega) (by omega) ?_
          intro x84 ex84 hx84a hx84b
          clear ex84
          refine zw_7s zr_0_366 rfl ?_
          refine zw_3 zr_0_367 rfl ?_
          refine zw_push zr_0_368 ?_
          refine zw_16 zr_0_369 (by omega) ?_
          refine zw_100 zr_0_370 rfl (by omega) (by omega) ?_
          intro x85 ex85 hx85a hx85b
          clear ex85
          refine zw_C zr_0_371 (Or.inl rfl) zm_149 rfl rfl ⟨Nat.le_of_ble_eq_true rfl, Nat.le_of_ble_eq_true rfl, Nat.le_of_ble_eq_true rfl, rfl, by decide⟩ (by omega) (th_149 (d := d - 1) (by omega) hIm82 (a0 := x84) (a1 := x85)   (by omega) (by omega)) ?_
          rintro _ m86 ⟨r87, rfl, hr87a, hr87b, hIm86, gm86⟩
          have hFm86 : zFr W_0 m0 m86 := hFm82.trans gm86 rfl
          show zW E (d) 0 374 [(6, 0), (2, 0), (2, 69), (0, i2)] [(0, r87)] m86 Q
          refine zw_115 zr_0_374 rfl ?_
          refine zw_42 zr_0_375 ?_
          refine zw_15 (c := 6) (L' := [(6, 0), (2, 0), (2, 69), (0, (i2 + 6))]) zr_0_1238 rfl (by decide) (by omega) rfl ?_
          refine zw_42 zr_0_1241 ?_
          exact zw_less (L := [(6, 0), (2, 0), (2, 69), (0, (i2 + 6))]) ⟨Or.inr rfl, Or.inr rfl, Or.inr rfl, Or.inr rfl, trivial⟩ (ihlp18_4 ((i2 + 6)) m86 hIm86 hFm86   (by omega) (by omega) (by omega))
        by_cases h88 : x9 = 4
        · refine zw_111 (t := 378) zr_0_33 (by rw [h88]; rfl) ?_
          refine zw_7 zr_0_378 rfl ?_
          refine zw_7s zr_0_379 rfl ?_
          refine zw_3 zr_0_380 rfl ?_
          refine zw_push zr_0_381 ?_
          refine zw_16 zr_0_382 (by omega) ?_
          refine zw_100 zr_0_383 rfl (by omega) (by omega) ?_
          intro x89 ex89 hx89a hx89b
          clear ex89
          refine zw_7s zr_0_384 rfl ?_
          refine zw_3 zr_0_385 rfl ?_
          refine zw_push zr_0_386 ?_
          refine zw_16 zr_0_387 (by omega) ?_
          refine zw_100 zr_0_388 rfl (by omega) (by omega) ?_
          intro x90 ex90 hx90a hx90b
          clear ex90
          refine zw_C zr_0_389 (Or.inl rfl) zm_106 rfl rfl ⟨Nat.le_of_ble_eq_true rfl, Nat.le_of_ble_eq_true rfl, Nat.le_of_ble_eq_true rfl, rfl, by decide⟩ (by omega) (th_106 (d := d - 1) (by omega) hIm3 (a0 := x89) (a1 := x90)   (by omega) (by omega)) ?_
          rintro _ m91 ⟨r92, rfl, hr92a, hr92b, hIm91, gm91⟩
          have hFm91 : zFr W_0 m0 m91 := hFm3.trans gm91 rfl
          show zW E (d) 0 392 [(6, 0), (2, 0), (2, 69), (0, i2)] [(0, r92)] m91 Q
          refine zw_115 zr_0_392 rfl ?_
          refine zw_7 zr_0_393 rfl ?_
          refine zw_7s zr_0_394 rfl ?_
          refine zw_3 zr_0_395 rfl ?_
          refine zw_push zr_0_396 ?_
          refine zw_16 zr_0_397 (by omega) ?_
          refine zw_100 zr_0_398 rfl (by omega) (by omega) ?_
          intro x93 ex93 hx93a hx93b
          clear ex93
          refine zw_7s zr_0_399 rfl ?_
          refine zw_3 zr_0_400 rfl ?_
          refine zw_push zr_0_401 ?_
          refine zw_16 zr_0_402 (by omega) ?_
          refine zw_100 zr_0_403 rfl (by omega) (by omega) ?_
          intro x94 ex94 hx94a hx94b
          clear ex94
          refine zw_C zr_0_404 (Or.inl rfl) zm_150 rfl rfl ⟨Nat.le_of_ble_eq_true rfl, Nat.le_of_ble_eq_true rfl, Nat.le_of_ble_eq_true rfl, rfl, by decide⟩ (by omega) (th_150 (d := d - 1) (by omega) hIm91 (a0 := x93) (a1 := x94)   (by omega) (by omega)) ?_
          rintro _ m95 ⟨r96, rfl, hr96a, hr96b, hIm95, gm95⟩
          have hFm95 : zFr W_0 m0 m95 := hFm91.trans gm95 rfl
          show zW E (d) 0 407 [(6, 0), (2, 0), (2, 69), (0, i2)] [(0, r96)] m95 Q
          refine zw_115 zr_0_407 rfl ?_
          refine zw_42 zr_0_408 ?_
          refine zw_15 (c := 6) (L' := [(6, 0), (2, 0), (2, 69), (0, (i2 + 6))]) zr_0_1238 rfl (by decide) (by omega) rfl ?_
          refine zw_42 zr_0_1241 ?_
          exact zw_less (L := [(6, 0), (2, 0), (2, 69), (0, (i2 + 6))]) ⟨Or.inr rfl, Or.inr rfl, Or.inr rfl, Or.inr rfl, trivial⟩ (ihlp18_4 ((i2 + 6)) m95 hIm95 hFm95   (by omega) (by omega) (by omega))
        by_cases h97 : x9 = 5
        · refine zw_111 (t := 411) zr_0_33 (by rw [h97]; rfl) ?_
          refine zw_7 zr_0_411 rfl ?_
          refine zw_7s zr_0_412 rfl ?_
          refine zw_3 zr_0_413 rfl ?_
          refine zw_push zr_0_414 ?_
          refine zw_16 zr_0_415 (by omega) ?_
          refine zw_100 zr_0_416 rfl (by omega) (by omega) ?_
          intro x98 ex98 hx98a hx98b
          clear ex98
          refine zw_C zr_0_417 (Or.inl rfl) zm_107 rfl rfl ⟨Nat.le_of_ble_eq_true rfl, Nat.le_of_ble_eq_true rfl, Nat.le_of_ble_eq_true rfl, rfl, by decide⟩ (by omega) (th_107 (d := d - 1) (by omega) hIm3 (a0 := x98)   (by omega)) ?_
          rintro _ m99 ⟨r100, rfl, hr100a, hr100b, hIm99, gm99⟩
          have hFm99 : zFr W_0 m0 m99 := hFm3.trans gm99 rfl
          show zW E (d) 0 420 [(6, 0), (2, 0), (2, 69), (0, i2)] [(0, r100)] m99 Q
          refine zw_115 zr_0_420 rfl ?_
          refine zw_7 zr_0_421 rfl ?_
          refine zw_7s zr_0_422 rfl ?_
          refine zw_3 zr_0_423 rfl ?_
          refine zw_push zr_0_424 ?_
          refine zw_16 zr_0_425 (by omega) ?_
          refine zw_100 zr_0_426 rfl (by omega) (by omega) ?_
          intro x101 ex101 hx101a hx101b
          clear ex101
          refine zw_C zr_0_427 (Or.inl rfl) zm_151 rfl rfl ⟨Nat.le_of_ble_eq_true rfl, Nat.le_of_ble_eq_true rfl, Nat.le_of_ble_eq_true rfl, rfl, by decide⟩ (by omega) (th_151 (d := d - 1) (by omega) hIm99 (a0 := x101)   (by omega)) ?_
          rintro _ m102 ⟨r103, rfl, hr103a, hr103b, hIm102, gm102⟩
          have hFm102 : zFr W_0 m0 m102 := hFm99.trans gm102 rfl
          show zW E (d) 0 430 [(6, 0), (2, 0), (2, 69), (0, i2)] [(0, r103)] m102 Q
          refine zw_115 zr_0_430 rfl ?_
          refine zw_42 zr_0_431 ?_
          refine zw_15 (c := 6) (L' := [(6, 0), (2, 0), (2, 69), (0, (i2 + 6))]) zr_0_1238 rfl (by decide) (by omega) rfl ?_
          refine zw_42 zr_0_1241 ?_
          exact zw_less (L := [(6, 0), (2, 0), (2, 69), (0, (i2 + 6))]) ⟨Or.inr rfl, Or.inr rfl, Or.inr rfl, Or.inr rfl, trivial⟩ (ihlp18_4 ((i2 + 6)) m102 hIm102 hFm102   (by omega) (by omega) (by omega))
        by_cases h104 : x9 = 6
        · refine zw_111 (t := 434) zr_0_33 (by rw [h104]; rfl) ?_
          refine zw_7 zr_0_434 rfl ?_
          refine zw_7s zr_0_435 rfl ?_
          refine zw_3 zr_0_436 rfl ?_
          refine zw_push zr_0_437 ?_
          refine zw_16 zr_0_438 (by omega) ?_
          refine zw_100 zr_0_439 rfl (by omega) (by omega) ?_
          intro x105 ex105 hx105a hx105b
          clear ex105
          refine zw_C zr_0_440 (Or.inl rfl) zm_108 rfl rfl ⟨Nat.le_of_ble_eq_true rfl, Nat.le_of_ble_eq_true rfl, Nat.le_of_ble_eq_true rfl, rfl, by decide⟩ (by omega) (th_108 (d := d - 1) (by omega) hIm3 (a0 := x105)   (by omega)) ?_
          rintro _ m106 ⟨r107, rfl, hr107a, hr107b, hIm106, gm106⟩
          have hFm106 : zFr W_0 m0 m106 := hFm3.trans gm106 rfl
          show zW E (d) 0 443 [(6, 0), (2, 0), (2, 69), (0, i2)] [(0, r107)] m106 Q
          refine zw_115 zr_0_443 rfl ?_
          refine zw_7 zr_0_444 rfl ?_
          refine zw_7s zr_0_445 rfl ?_
          refine zw_3 zr_0_446 rfl ?_
          refine zw_push zr_0_447 ?_
          refine zw_16 zr_0_448 (by omega) ?_
          refine zw_100 zr_0_449 rfl (by omega) (by omega) ?_
          intro x108 ex108 hx108a hx108b
          clear ex108
          refine zw_C zr_0_450 (Or.inl rfl) zm_163 rfl rfl ⟨Nat.le_of_ble_eq_true rfl, Nat.le_of_ble_eq_true rfl, Nat.le_of_ble_eq_true rfl, rfl, by decide⟩ (by omega) (th_163 (d := d - 1) (by omega) hIm106 (a0 := x108)   (by omega)) ?_
          rintro _ m109 ⟨r110, rfl, hr110a, hr110b, hIm109, gm109⟩
          have hFm109 : zFr W_0 m0 m109 := hFm106.trans gm109 rfl
          show zW E (d) 0 453 [(6, 0), (2, 0), (2, 69), (0, i2)] [(0, r110)] m109 Q
          refine zw_115 zr_0_453 rfl ?_
          refine zw_42 zr_0_454 ?_
          refine zw_15 (c := 6) (L' := [(6, 0), (2, 0), (2, 69), (0, (i2 + 6))]) zr_0_1238 rfl (by decide) (by omega) rfl ?_
          refine zw_42 zr_0_1241 ?_
          exact zw_less (L := [(6, 0), (2, 0), (2, 69), (0, (i2 + 6))]) ⟨Or.inr rfl, Or.inr rfl, Or.inr rfl, Or.inr rfl, trivial⟩ (ihlp18_4 ((i2 + 6)) m109 hIm109 hFm109   (by omega) (by omega) (by omega))
        by_cases h111 : x9 = 7
        · refine zw_111 (t := 457) zr_0_33 (by rw [h111]; rfl) ?_
          refine zw_7 zr_0_457 rfl ?_
          refine zw_7s zr_0_458 rfl ?_
          refine zw_3 zr_0_459 rfl ?_
          refine zw_push zr_0_460 ?_
          refine zw_16 zr_0_461 (by omega) ?_
          refine zw_100 zr_0_462 rfl (by omega) (by omega) ?_
          intro x112 ex112 hx112a hx112b
          clear ex112
          refine zw_7s zr_0_463 rfl ?_
          refine zw_3 zr_0_464 rfl ?_
          refine zw_push zr_0_465 ?_
          refine zw_16 zr_0_466 (by omega) ?_
          refine zw_100 zr_0_467 rfl (by omega) (by omega) ?_
          intro x113 ex113 hx113a hx113b
          clear ex113
          refine zw_7s zr_0_468 rfl ?_
          refine zw_3 zr_0_469 rfl ?_
          refine zw_push zr_0_470 ?_
          refine zw_16 zr_0_471 (by omega) ?_
          refine zw_100 zr_0_472 rfl (by omega) (by omega) ?_
          intro x114 ex114 hx114a hx114b
          clear ex114
          refine zw_C zr_0_473 (Or.inl rfl) zm_109 rfl rfl ⟨Nat.le_of_ble_eq_true rfl, Nat.le_of_ble_eq_true rfl, Nat.le_of_ble_eq_true rfl, rfl, by decide⟩ (by omega) (th_109 (d := d - 1) (by omega) hIm3 (a0 := x112) (a1 := x113) (a2 := x114)   (by omega) (by omega) (by omega)) ?_
          rintro _ m115 ⟨r116, rfl, hr116a, hr116b, hIm115, gm115⟩
          have hFm115 : zFr W_0 m0 m115 := hFm3.trans gm115 rfl
          show zW E (d) 0 476 [(6, 0), (2, 0), (2, 69), (0, i2)] [(0, r116)] m115 Q
          refine zw_115 zr_0_476 rfl ?_
          refine zw_7 zr_0_477 rfl ?_
          refine zw_7s zr_0_478 rfl ?_
          refine zw_3 zr_0_479 rfl ?_
          refine zw_push zr_0_480 ?_
          refine zw_16 zr_0_481 (by omega) ?_
          refine zw_100 zr_0_482 rfl (by omega) (by omega) ?_
          intro x117 ex117 hx117a hx117b
          clear ex117
          refine zw_7s zr_0_483 rfl ?_
          refine zw_3 zr_0_484 rfl ?_
          refine zw_push zr_0_485 ?_
          refine zw_16 zr_0_486 (by omega) ?_
          refine zw_100 zr_0_487 rfl (by omega) (by omega) ?_
          intro x118 ex118 hx118a hx118b
          clear ex118
          refine zw_7s zr_0_488 rfl ?_
          refine zw_3 zr_0_489 rfl ?_
          refine zw_push zr_0_490 ?_
          refine zw_16 zr_0_491 (by omega) ?_
          refine zw_100 zr_0_492 rfl (by omega) (by omega) ?_
          intro x119 ex119 hx119a hx119b
          clear ex119
          refine zw_C zr_0_493 (Or.inl rfl) zm_168 rfl rfl ⟨Nat.le_of_ble_eq_true rfl, Nat.le_of_ble_eq_true rfl, Nat.le_of_ble_eq_true rfl, rfl, by decide⟩ (by omega) (th_168 (d := d - 1) (by omega) hIm115 (a0 := x117) (a1 := x118) (a2 := x119)   (by omega) (by omega) (by omega)) ?_
          rintro _ m120 ⟨r121, rfl, hr121a, hr121b, hIm120, gm120⟩
          have hFm120 : zFr W_0 m0 m120 := hFm115.trans gm120 rfl
          show zW E (d) 0 496 [(6, 0), (2, 0), (2, 69), (0, i2)] [(0, r121)] m120 Q
          refine zw_115 zr_0_496 rfl ?_
          refine zw_42 zr_0_497 ?_
          refine zw_15 (c := 6) (L' := [(6, 0), (2, 0), (2, 69), (0, (i2 + 6))]) zr_0_1238 rfl (by decide) (by omega) rfl ?_
          refine zw_42 zr_0_1241 ?_
          exact zw_less (L := [(6, 0), (2, 0), (2, 69), (0, (i2 + 6))]) ⟨Or.inr rfl, Or.inr rfl, Or.inr rfl, Or.inr rfl, trivial⟩ (ihlp18_4 ((i2 + 6)) m120 hIm120 hFm120   (by omega) (by omega) (by omega))
        by_cases h122 : x9 = 8
        · refine zw_111 (t := 500) zr_0_33 (by rw [h122]; rfl) ?_
          refine zw_7 zr_0_500 rfl ?_
          refine zw_7s zr_0_501 rfl ?_
          refine zw_3 zr_0_502 rfl ?_
          refine zw_push zr_0_503 ?_
          refine zw_16 zr_0_504 (by omega) ?_
          refine zw_100 zr_0_505 rfl (by omega) (by omega) ?_
          intro x123 ex123 hx123a hx123b
          clear ex123
          refine zw_7s zr_0_506 rfl ?_
          refine zw_3 zr_0_507 rfl ?_
          refine zw_push zr_0_508 ?_
          refine zw_16 zr_0_509 (by omega) ?_
          refine zw_100 zr_0_510 rfl (by omega) (by omega) ?_
          intro x124 ex124 hx124a hx124b
          clear ex124
          refine zw_C zr_0_511 (Or.inl rfl) zm_110 rfl rfl ⟨Nat.le_of_ble_eq_true rfl, Nat.le_of_ble_eq_true rfl, Nat.le_of_ble_eq_true rfl, rfl, by decide⟩ (by omega) (th_110 (d := d - 1) (by omega) hIm3 (a0 := x123) (a1 := x124)   (by omega) (by omega)) ?_
          rintro _ m125 ⟨r126, rfl, hr126a, hr126b, hIm125, gm125⟩
          have hFm125 : zFr W_0 m0 m125 := hFm3.trans gm125 rfl
          show zW E (d) 0 514 [(6, 0), (2, 0), (2, 69), (0, i2)] [(0, r126)] m125 Q
          refine zw_115 zr_0_514 rfl ?_
          refine zw_7 zr_0_515 rfl ?_
          refine zw_7s zr_0_516 rfl ?_
          refine zw_3 zr_0_517 rfl ?_
          refine zw_push zr_0_518 ?_
          refine zw_16 zr_0_519 (by omega) ?_
          refine zw_100 zr_0_520 rfl (by omega) (by omega) ?_
          intro x127 ex127 hx127a hx127b
          clear ex127
          refine zw_7s zr_0_521 rfl ?_
          refine zw_3 zr_0_522 rfl ?_
          refine zw_push zr_0_523 ?_
          refine zw_16 zr_0_524 (by omega) ?_
          refine zw_100 zr_0_525 rfl (by omega) (by omega) ?_
          intro x128 ex128 hx128a hx128b
          clear ex128
          refine zw_C zr_0_526 (Or.inl rfl) zm_170 rfl rfl ⟨Nat.le_of_ble_eq_true rfl, Nat.le_of_ble_eq_true rfl, Nat.le_of_ble_eq_true rfl, rfl, by decide⟩ (by omega) (th_170 (d := d - 1) (by omega) hIm125 (a0 := x127) (a1 := x128)   (by omega) (by omega)) ?_
          rintro _ m129 ⟨r130, rfl, hr130a, hr130b, hIm129, gm129⟩
          have hFm129 : zFr W_0 m0 m129 := hFm125.trans gm129 rfl
          show zW E (d) 0 529 [(6, 0), (2, 0), (2, 69), (0, i2)] [(0, r130)] m129 Q
          refine zw_115 zr_0_529 rfl ?_
          refine zw_42 zr_0_530 ?_
          refine zw_15 (c := 6) (L' := [(6, 0), (2, 0), (2, 69), (0, (i2 + 6))]) zr_0_1238 rfl (by decide) (by omega) rfl ?_
          refine zw_42 zr_0_1241 ?_
          exact zw_less (L := [(6, 0), (2, 0), (2, 69), (0, (i2 + 6))]) ⟨Or.inr rfl, Or.inr rfl, Or.inr rfl, Or.inr rfl, trivial⟩ (ihlp18_4 ((i2 + 6)) m129 hIm129 hFm129   (by omega) (by omega) (by omega))
        by_cases h131 : x9 = 9
        · refine zw_111 (t := 533) zr_0_33 (by rw [h131]; rfl) ?_
          refine zw_7 zr_0_533 rfl ?_
          refine zw_7s zr_0_534 rfl ?_
          refine zw_3 zr_0_535 rfl ?_
          refine zw_push zr_0_536 ?_
          refine zw_16 zr_0_537 (by omega) ?_
          refine zw_100 zr_0_538 rfl (by omega) (by omega) ?_
          intro x132 ex132 hx132a hx132b
          clear ex132
          refine zw_7s zr_0_539 rfl ?_
          refine zw_3 zr_0_540 rfl ?_
          refine zw_push zr_0_541 ?_
          refine zw_16 zr_0_542 (by omega) ?_
          refine zw_100 zr_0_543 rfl (by omega) (by omega) ?_
          intro x133 ex133 hx133a hx133b
          clear ex133
          refine zw_7s zr_0_544 rfl ?_
          refine zw_3 zr_0_545 rfl ?_
          refine zw_push zr_0_546 ?_
          refine zw_16 zr_0_547 (by omega) ?_
          refine zw_100 zr_0_548 rfl (by omega) (by omega) ?_
          intro x134 ex134 hx134a hx134b
          clear ex134
          refine zw_C zr_0_549 (Or.inl rfl) zm_111 rfl rfl ⟨Nat.le_of_ble_eq_true rfl, Nat.le_of_ble_eq_true rfl, Nat.le_of_ble_eq_true rfl, rfl, by decide⟩ (by omega) (th_111 (d := d - 1) (by omega) hIm3 (a0 := x132) (a1 := x133) (a2 := x134)   (by omega) (by omega) (by omega)) ?_
          rintro _ m135 ⟨r136, rfl, hr136a, hr136b, hIm135, gm135⟩
          have hFm135 : zFr W_0 m0 m135 := hFm3.trans gm135 rfl
          show zW E (d) 0 552 [(6, 0), (2, 0), (2, 69), (0, i2)] [(0, r136)] m135 Q
          refine zw_115 zr_0_552 rfl ?_
          refine zw_7 zr_0_553 rfl ?_
          refine zw_7s zr_0_554 rfl ?_
          refine zw_3 zr_0_555 rfl ?_
          refine zw_push zr_0_556 ?_
          refine zw_16 zr_0_557 (by omega) ?_
          refine zw_100 zr_0_558 rfl (by omega) (by omega) ?_
          intro x137 ex137 hx137a hx137b
          clear ex137
          refine zw_7s zr_0_559 rfl ?_
          refine zw_3 zr_0_560 rfl ?_
          refine zw_push zr_0_561 ?_
          refine zw_16 zr_0_562 (by omega) ?_
          refine zw_100 zr_0_563 rfl (by omega) (by omega) ?_
          intro x138 ex138 hx138a hx138b
          clear ex138
          refine zw_7s zr_0_564 rfl ?_
          refine zw_3 zr_0_565 rfl ?_
          refine zw_push zr_0_566 ?_
          refine zw_16 zr_0_567 (by omega) ?_
          refine zw_100 zr_0_568 rfl (by omega) (by omega) ?_
          intro x139 ex139 hx139a hx139b
          clear ex139
          refine zw_C zr_0_569 (Or.inl rfl) zm_174 rfl rfl ⟨Nat.le_of_ble_eq_true rfl, Nat.le_of_ble_eq_true rfl, Nat.le_of_ble_eq_true rfl, rfl, by decide⟩ (by omega) (th_174 (d := d - 1) (by omega) hIm135 (a0 := x137) (a1 := x138) (a2 := x139)   (by omega) (by omega) (by omega)) ?_
          rintro _ m140 ⟨r141, rfl, hr141a, hr141b, hIm140, gm140⟩
          have hFm140 : zFr W_0 m0 m140 := hFm135.trans gm140 rfl
          show zW E (d) 0 572 [(6, 0), (2, 0), (2, 69), (0, i2)] [(0, r141)] m140 Q
          refine zw_115 zr_0_572 rfl ?_
          refine zw_42 zr_0_573 ?_
          refine zw_15 (c := 6) (L' := [(6, 0), (2, 0), (2, 69), (0, (i2 + 6))]) zr_0_1238 rfl (by decide) (by omega) rfl ?_
          refine zw_42 zr_0_1241 ?_
          exact zw_less (L := [(6, 0), (2, 0), (2, 69), (0, (i2 + 6))]) ⟨Or.inr rfl, Or.inr rfl, Or.inr rfl, Or.inr rfl, trivial⟩ (ihlp18_4 ((i2 + 6)) m140 hIm140 hFm140   (by omega) (by omega) (by omega))
        by_cases h142 : x9 = 10
        · refine zw_111 (t := 576) zr_0_33 (by rw [h142]; rfl) ?_
          refine zw_7 zr_0_576 rfl ?_
          refine zw_7s zr_0_577 rfl ?_
          refine zw_3 zr_0_578 rfl ?_
          refine zw_push zr_0_579 ?_
          refine zw_16 zr_0_580 (by omega) ?_
          refine zw_100 zr_0_581 rfl (by omega) (by omega) ?_
          intro x143 ex143 hx143a hx143b
          clear ex143
          refine zw_7s zr_0_582 rfl ?_
          refine zw_3 zr_0_583 rfl ?_
          refine zw_push zr_0_584 ?_
          refine zw_16 zr_0_585 (by omega) ?_
          refine zw_100 zr_0_586 rfl (by omega) (by omega) ?_
          intro x144 ex144 hx144a hx144b
          clear ex144
          refine zw_7s zr_0_587 rfl ?_
          refine zw_3 zr_0_588 rfl ?_
          refine zw_push zr_0_589 ?_
          refine zw_16 zr_0_590 (by omega) ?_
          refine zw_100 zr_0_591 rfl (by omega) (by omega) ?_
          intro x145 ex145 hx145a hx145b
          clear ex145
          refine zw_C zr_0_592 (Or.inl rfl) zm_112 rfl rfl ⟨Nat.le_of_ble_eq_true rfl, Nat.le_of_ble_eq_true rfl, Nat.le_of_ble_eq_true rfl, rfl, by decide⟩ (by omega) (th_112 (d := d - 1) (by omega) hIm3 (a0 := x143) (a1 := x144) (a2 := x145)   (by omega) (by omega) (by omega)) ?_
          rintro _ m146 ⟨r147, rfl, hr147a, hr147b, hIm146, gm146⟩
          have hFm146 : zFr W_0 m0 m146 := hFm3.trans gm146 rfl
          show zW E (d) 0 595 [(6, 0), (2, 0), (2, 69), (0, i2)] [(0, r147)] m146 Q
          refine zw_115 zr_0_595 rfl ?_
          refine zw_7 zr_0_596 rfl ?_
          refine zw_7s zr_0_597 rfl ?_
          refine zw_3 zr_0_598 rfl ?_
          refine zw_push zr_0_599 ?_
          refine zw_16 zr_0_600 (by omega) ?_
          refine zw_100 zr_0_601 rfl (by omega) (by omega) ?_
          intro x148 ex148 hx148a hx148b
          clear ex148
          refine zw_7s zr_0_602 rfl ?_
          refine zw_3 zr_0_603 rfl ?_
          refine zw_push zr_0_604 ?_
          refine zw_16 zr_0_605 (by omega) ?_
          refine zw_100 zr_0_606 rfl (by omega) (by omega) ?_
          intro x149 ex149 hx149a hx149b
          clear ex149
          refine zw_7s zr_0_607 rfl ?_
          refine zw_3 zr_0_608 rfl ?_
          refine zw_push zr_0_609 ?_
          refine zw_16 zr_0_610 (by omega) ?_
          refine zw_100 zr_0_611 rfl (by omega) (by omega) ?_
          intro x150 ex150 hx150a hx150b
          clear ex150
          refine zw_C zr_0_612 (Or.inl rfl) zm_175 rfl rfl ⟨Nat.le_of_ble_eq_true rfl, Nat.le_of_ble_eq_true rfl, Nat.le_of_ble_eq_true rfl, rfl, by decide⟩ (by omega) (th_175 (d := d - 1) (by omega) hIm146 (a0 := x148) (a1 := x149) (a2 := x150)   (by omega) (by omega) (by omega)) ?_
          rintro _ m151 ⟨r152, rfl, hr152a, hr152b, hIm151, gm151⟩
          have hFm151 : zFr W_0 m0 m151 := hFm146.trans gm151 rfl
          show zW E (d) 0 615 [(6, 0), (2, 0), (2, 69), (0, i2)] [(0, r152)] m151 Q
          refine zw_115 zr_0_615 rfl ?_
          refine zw_42 zr_0_616 ?_
          refine zw_15 (c := 6) (L' := [(6, 0), (2, 0), (2, 69), (0, (i2 + 6))]) zr_0_1238 rfl (by decide) (by omega) rfl ?_
          refine zw_42 zr_0_1241 ?_
          exact zw_less (L := [(6, 0), (2, 0), (2, 69), (0, (i2 + 6))]) ⟨Or.inr rfl, Or.inr rfl, Or.inr rfl, Or.inr rfl, trivial⟩ (ihlp18_4 ((i2 + 6)) m151 hIm151 hFm151   (by omega) (by omega) (by omega))
        by_cases h153 : x9 = 11
        · refine zw_111 (t := 619) zr_0_33 (by rw [h153]; rfl) ?_
          refine zw_7 zr_0_619 rfl ?_
          refine zw_7s zr_0_620 rfl ?_
          refine zw_3 zr_0_621 rfl ?_
          refine zw_push zr_0_622 ?_
          refine zw_16 zr_0_623 (by omega) ?_
          refine zw_100 zr_0_624 rfl (by omega) (by omega) ?_
          intro x154 ex154 hx154a hx154b
          clear ex154
          refine zw_C zr_0_625 (Or.inl rfl) zm_113 rfl rfl ⟨Nat.le_of_ble_eq_true rfl, Nat.le_of_ble_eq_true rfl, Nat.le_of_ble_eq_true rfl, rfl, by decide⟩ (by omega) (th_113 (d := d - 1) (by omega) hIm3 (a0 := x154)   (by omega)) ?_
          rintro _ m155 ⟨r156, rfl, hr156a, hr156b, hIm155, gm155⟩
          have hFm155 : zFr W_0 m0 m155 := hFm3.trans gm155 rfl
          show zW E (d) 0 628 [(6, 0), (2, 0), (2, 69), (0, i2)] [(0, r156)] m155 Q
          refine zw_115 zr_0_628 rfl ?_
          refine zw_7 zr_0_629 rfl ?_
          refine zw_7s zr_0_630 rfl ?_
          refine zw_3 zr_0_631 rfl ?_
          refine zw_push zr_0_632 ?_
          refine zw_16 zr_0_633 (by omega) ?_
          refine zw_100 zr_0_634 rfl (by omega) (by omega) ?_
          intro x157 ex157 hx157a hx157b
          clear ex157
          refine zw_C zr_0_635 (Or.inl rfl) zm_177 rfl rfl ⟨Nat.le_of_ble_eq_true rfl, Nat.le_of_ble_eq_true rfl, Nat.le_of_ble_eq_true rfl, rfl, by decide⟩ (by omega) (th_177 (d := d - 1) (by omega) hIm155 (a0 := x157)   (by omega)) ?_
          rintro _ m158 ⟨r159, rfl, hr159a, hr159b, hIm158, gm158⟩
          have hFm158 : zFr W_0 m0 m158 := hFm155.trans gm158 rfl
          show zW E (d) 0 638 [(6, 0), (2, 0), (2, 69), (0, i2)] [(0, r159)] m158 Q
          refine zw_115 zr_0_638 rfl ?_
          refine zw_42 zr_0_639 ?_
          refine zw_15 (c := 6) (L' := [(6, 0), (2, 0), (2, 69), (0, (i2 + 6))]) zr_0_1238 rfl (by decide) (by omega) rfl ?_
          refine zw_42 zr_0_1241 ?_
          exact zw_less (L := [(6, 0), (2, 0), (2, 69), (0, (i2 + 6))]) ⟨Or.inr rfl, Or.inr rfl, Or.inr rfl, Or.inr rfl, trivial⟩ (ihlp18_4 ((i2 + 6)) m158 hIm158 hFm158   (by omega) (by omega) (by omega))
        by_cases h160 : x9 = 12
        · refine zw_111 (t := 642) zr_0_33 (by rw [h160]; rfl) ?_
          refine zw_7 zr_0_642 rfl ?_
          refine zw_C zr_0_643 (Or.inl rfl) zm_114 rfl rfl ⟨Nat.le_of_ble_eq_true rfl, Nat.le_of_ble_eq_true rfl, Nat.le_of_ble_eq_true rfl, rfl, by decide⟩ (by omega) (th_114 (d := d - 1) (by omega) hIm3    ) ?_
          rintro _ m161 ⟨r162, rfl, hr162a, hr162b, hIm161, gm161⟩
          have hFm161 : zFr W_0 m0 m161 := hFm3.trans gm161 rfl
          show zW E (d) 0 646 [(6, 0), (2, 0), (2, 69), (0, i2)] [(0, r162)] m161 Q
          refine zw_115 zr_0_646 rfl ?_
          refine zw_7 zr_0_647 rfl ?_
          refine zw_C zr_0_648 (Or.inl rfl) zm_178 rfl rfl ⟨Nat.le_of_ble_eq_true rfl, Nat.le_of_ble_eq_true rfl, Nat.le_of_ble_eq_true rfl, rfl, by decide⟩ (by omega) (th_178 (d := d - 1) (by omega) hIm161    ) ?_
          rintro _ m163 ⟨r164, rfl, hr164a, hr164b, hIm163, gm163⟩
          have hFm163 : zFr W_0 m0 m163 := hFm161.trans gm163 rfl
          show zW E (d) 0 651 [(6, 0), (2, 0), (2, 69), (0, i2)] [(0, r164)] m163 Q
          refine zw_115 zr_0_651 rfl ?_
          refine zw_42 zr_0_652 ?_
          refine zw_15 (c := 6) (L' := [(6, 0), (2, 0), (2, 69), (0, (i2 + 6))]) zr_0_1238 rfl (by decide) (by omega) rfl ?_
          refine zw_42 zr_0_1241 ?_
          exact zw_less (L := [(6, 0), (2, 0), (2, 69), (0, (i2 + 6))]) ⟨Or.inr rfl, Or.inr rfl, Or.inr rfl, Or.inr rfl, trivial⟩ (ihlp18_4 ((i2 + 6)) m163 hIm163 hFm163   (by omega) (by omega) (by omega))
        by_cases h165 : x9 = 13
        · refine zw_111 (t := 655) zr_0_33 (by rw [h165]; rfl) ?_
          refine zw_7 zr_0_655 rfl ?_
          refine zw_7s zr_0_656 rfl ?_
          refine zw_3 zr_0_657 rfl ?_
          refine zw_push zr_0_658 ?_
          refine zw_16 zr_0_659 (by omega) ?_
          refine zw_100 zr_0_660 rfl (by omega) (by omega) ?_
          intro x166 ex166 hx166a hx166b
          clear ex166
          refine zw_7s zr_0_661 rfl ?_
          refine zw_3 zr_0_662 rfl ?_
          refine zw_push zr_0_663 ?_
          refine zw_16 zr_0_664 (by omega) ?_
          refine zw_100 zr_0_665 rfl (by omega) (by omega) ?_
          intro x167 ex167 hx167a hx167b
          clear ex167
          refine zw_C zr_0_666 (Or.inl rfl) zm_115 rfl rfl ⟨Nat.le_of_ble_eq_true rfl, Nat.le_of_ble_eq_true rfl, Nat.le_of_ble_eq_true rfl, rfl, by decide⟩ (by omega) (th_115 (d := d - 1) (by omega) hIm3 (a0 := x166) (a1 := x167)   (by omega) (by omega)) ?_
          rintro _ m168 ⟨r169, rfl, hr169a, hr169b, hIm168, gm168⟩
          have hFm168 : zFr W_0 m0 m168 := hFm3.trans gm168 rfl
          show zW E (d) 0 669 [(6, 0), (2, 0), (2, 69), (0, i2)] [(0, r169)] m168 Q
          refine zw_115 zr_0_669 rfl ?_
          refine zw_7 zr_0_670 rfl ?_
          refine zw_7s zr_0_671 rfl ?_
          refine zw_3 zr_0_672 rfl ?_
          refine zw_push zr_0_673 ?_
          refine zw_16 zr_0_674 (by omega) ?_
          refine zw_100 zr_0_675 rfl (by omega) (by omega) ?_
          intro x170 ex170 hx170a hx170b
          clear ex170
          refine zw_7s zr_0_676 rfl ?_
          refine zw_3 zr_0_677 rfl ?_
          refine zw_push zr_0_678 ?_
          refine zw_16 zr_0_679 (by omega) ?_
          refine zw_100 zr_0_680 rfl (by omega) (by omega) ?_
          intro x171 ex171 hx171a hx171b
          clear ex171
          refine zw_C zr_0_681 (Or.inl rfl) zm_179 rfl rfl ⟨Nat.le_of_ble_eq_true rfl, Nat.le_of_ble_eq_true rfl, Nat.le_of_ble_eq_true rfl, rfl, by decide⟩ (by omega) (th_179 (d := d - 1) (by omega) hIm168 (a0 := x170) (a1 := x171)   (by omega) (by omega)) ?_
          rintro _ m172 ⟨r173, rfl, hr173a, hr173b, hIm172, gm172⟩
          have hFm172 : zFr W_0 m0 m172 := hFm168.trans gm172 rfl
          show zW E (d) 0 684 [(6, 0), (2, 0), (2, 69), (0, i2)] [(0, r173)] m172 Q
          refine zw_115 zr_0_684 rfl ?_
          refine zw_42 zr_0_685 ?_
          refine zw_15 (c := 6) (L' := [(6, 0), (2, 0), (2, 69), (0, (i2 + 6))]) zr_0_1238 rfl (by decide) (by omega) rfl ?_
          refine zw_42 zr_0_1241 ?_
          exact zw_less (L := [(6, 0), (2, 0), (2, 69), (0, (i2 + 6))]) ⟨Or.inr rfl, Or.inr rfl, Or.inr rfl, Or.inr rfl, trivial⟩ (ihlp18_4 ((i2 + 6)) m172 hIm172 hFm172   (by omega) (by omega) (by omega))
        by_cases h174 : x9 = 14
        · refine zw_111 (t := 688) zr_0_33 (by rw [h174]; rfl) ?_
          refine zw_7 zr_0_688 rfl ?_
          refine zw_7s zr_0_689 rfl ?_
          refine zw_3 zr_0_690 rfl ?_
          refine zw_push zr_0_691 ?_
          refine zw_16 zr_0_692 (by omega) ?_
          refine zw_100 zr_0_693 rfl (by omega) (by omega) ?_
          intro x175 ex175 hx175a hx175b
          clear ex175
          refine zw_7s zr_0_694 rfl ?_
          refine zw_3 zr_0_695 rfl ?_
          refine zw_push zr_0_696 ?_
          refine zw_16 zr_0_697 (by omega) ?_
          refine zw_100 zr_0_698 rfl (by omega) (by omega) ?_
          intro x176 ex176 hx176a hx176b
          clear ex176
          refine zw_C zr_0_699 (Or.inl rfl) zm_116 rfl rfl ⟨Nat.le_of_ble_eq_true rfl, Nat.le_of_ble_eq_true rfl, Nat.le_of_ble_eq_true rfl, rfl, by decide⟩ (by omega) (th_116 (d := d - 1) (by omega) hIm3 (a0 := x175) (a1 := x176)   (by omega) (by omega)) ?_
          rintro _ m177 ⟨r178, rfl, hr178a, hr178b, hIm177, gm177, po0_r178⟩
          have hFm177 : zFr W_0 m0 m177 := hFm3.trans gm177 rfl
          show zW E (d) 0 702 [(6, 0), (2, 0), (2, 69), (0, i2)] [(0, r178)] m177 Q
          refine zw_7 zr_0_702 rfl ?_
          refine zw_7s zr_0_703 rfl ?_
          refine zw_3 zr_0_704 rfl ?_
          refine zw_push zr_0_705 ?_
          refine zw_16 zr_0_706 (by omega) ?_
          refine zw_100 zr_0_707 rfl (by omega) (by omega) ?_
          intro x179 ex179 hx179a hx179b
          clear ex179
          refine zw_7s zr_0_708 rfl ?_
          refine zw_3 zr_0_709 rfl ?_
          refine zw_push zr_0_710 ?_
          refine zw_16 zr_0_711 (by omega) ?_
          refine zw_100 zr_0_712 rfl (by omega) (by omega) ?_
          intro x180 ex180 hx180a hx180b
          clear ex180
          refine zw_C zr_0_713 (Or.inl rfl) zm_180 rfl rfl ⟨Nat.le_of_ble_eq_true rfl, Nat.le_of_ble_eq_true rfl, Nat.le_of_ble_eq_true rfl, rfl, by decide⟩ (by omega) (th_180 (d := d - 1) (by omega) hIm177 (a0 := x179) (a1 := x180)   (by omega) (by omega)) ?_
          rintro _ m181 ⟨r182, rfl, hr182a, hr182b, hIm181, gm181, po0_r182⟩
          have hFm181 : zFr W_0 m0 m181 := hFm177.trans gm181 rfl
          show zW E (d) 0 716 [(6, 0), (2, 0), (2, 69), (0, i2)] [(0, r182), (0, r178)] m181 Q
          refine zw_41_1 zr_0_716 ?_ ?_
          · intro h183
            refine zw_15 (c := 6) (L' := [(6, 0), (2, 0), (2, 69), (0, (i2 + 6))]) zr_0_1238 rfl (by decide) (by omega) rfl ?_
            refine zw_42 zr_0_1241 ?_
            exact zw_less (L := [(6, 0), (2, 0), (2, 69), (0, (i2 + 6))]) ⟨Or.inr rfl, Or.inr rfl, Or.inr rfl, Or.inr rfl, trivial⟩ (ihlp18_4 ((i2 + 6)) m181 hIm181 hFm181   (by omega) (by omega) (by omega))
          · intro h184
            refine zw_push zr_0_719 ?_
            refine zw_R zr_0_720 (by decide) zm_0 (v := (0, 0)) (zRetB (by omega)) ?_
            rw [← hQ]; exact ⟨_, rfl, by omega, by omega, hIm181, hFm181⟩
        by_cases h185 : x9 = 15
        · refine zw_111 (t := 721) zr_0_33 (by rw [h185]; rfl) ?_
          refine zw_7 zr_0_721 rfl ?_
          refine zw_C zr_0_722 (Or.inl rfl) zm_117 rfl rfl ⟨Nat.le_of_ble_eq_true rfl, Nat.le_of_ble_eq_true rfl, Nat.le_of_ble_eq_true rfl, rfl, by decide⟩ (by omega) (th_117 (d := d - 1) (by omega) hIm3    ) ?_
          rintro _ m186 ⟨r187, rfl, hr187a, hr187b, hIm186, gm186⟩
          have hFm186 : zFr W_0 m0 m186 := hFm3.trans gm186 rfl
          show zW E (d) 0 725 [(6, 0), (2, 0), (2, 69), (0, i2)] [(0, r187)] m186 Q
          refine zw_115 zr_0_725 rfl ?_
          refine zw_7 zr_0_726 rfl ?_
          refine zw_C zr_0_727 (Or.inl rfl) zm_185 rfl rfl ⟨Nat.le_of_ble_eq_true rfl, Nat.le_of_ble_eq_true rfl, Nat.le_of_ble_eq_true rfl, rfl, by decide⟩ (by omega) (th_185 (d := d - 1) (by omega) hIm186    ) ?_
          rintro _ m188 ⟨r189, rfl, hr189a, hr189b, hIm188, gm188⟩
          have hFm188 : zFr W_0 m0 m188 := hFm186.trans gm188 rfl
          show zW E (d) 0 730 [(6, 0), (2, 0), (2, 69), (0, i2)] [(0, r189)] m188 Q
          refine zw_115 zr_0_730 rfl ?_
          refine zw_42 zr_0_731 ?_
          refine zw_15 (c := 6) (L' := [(6, 0), (2, 0), (2, 69), (0, (i2 + 6))]) zr_0_1238 rfl (by decide) (by omega) rfl ?_
          refine zw_42 zr_0_1241 ?_
          exact zw_less (L := [(6, 0), (2, 0), (2, 69), (0, (i2 + 6))]) ⟨Or.inr rfl, Or.inr rfl, Or.inr rfl, Or.inr rfl, trivial⟩ (ihlp18_4 ((i2 + 6)) m188 hIm188 hFm188   (by omega) (by omega) (by omega))
        by_cases h190 : x9 = 16
        · refine zw_111 (t := 734) zr_0_33 (by rw [h190]; rfl) ?_
          refine zw_7 zr_0_734 rfl ?_
          refine zw_7s zr_0_735 rfl ?_
          refine zw_3 zr_0_736 rfl ?_
          refine zw_push zr_0_737 ?_
          refine zw_16 zr_0_738 (by omega) ?_
          refine zw_100 zr_0_739 rfl (by omega) (by omega) ?_
          intro x191 ex191 hx191a hx191b
          clear ex191
          refine zw_7s zr_0_740 rfl ?_
          refine zw_3 zr_0_741 rfl ?_
          refine zw_push zr_0_742 ?_
          refine zw_16 zr_0_743 (by omega) ?_
          refine zw_100 zr_0_744 rfl (by omega) (by omega) ?_
          intro x192 ex192 hx192a hx192b
          clear ex192
          refine zw_7s zr_0_745 rfl ?_
          refine zw_3 zr_0_746 rfl ?_
          refine zw_push zr_0_747 ?_
          refine zw_16 zr_0_748 (by omega) ?_
          refine zw_100 zr_0_749 rfl (by omega) (by omega) ?_
          intro x193 ex193 hx193a hx193b
          clear ex193
          refine zw_C zr_0_750 (Or.inl rfl) zm_118 rfl rfl ⟨Nat.le_of_ble_eq_true rfl, Nat.le_of_ble_eq_true rfl, Nat.le_of_ble_eq_true rfl, rfl, by decide⟩ (by omega) (th_118 (d := d - 1) (by omega) hIm3 (a0 := x191) (a1 := x192) (a2 := x193)   (by omega) (by omega) (by omega)) ?_
          rintro _ m194 ⟨r195, rfl, hr195a, hr195b, hIm194, gm194⟩
          have hFm194 : zFr W_0 m0 m194 := hFm3.trans gm194 rfl
          show zW E (d) 0 753 [(6, 0), (2, 0), (2, 69), (0, i2)] [(0, r195)] m194 Q
          refine zw_115 zr_0_753 rfl ?_
          refine zw_7 zr_0_754 rfl ?_
          refine zw_7s zr_0_755 rfl ?_
          refine zw_3 zr_0_756 rfl ?_
          refine zw_push zr_0_757 ?_
          refine zw_16 zr_0_758 (by omega) ?_
          refine zw_100 zr_0_759 rfl (by omega) (by omega) ?_
          intro x196 ex196 hx196a hx196b
          clear ex196
          refine zw_7s zr_0_760 rfl ?_
          refine zw_3 zr_0_761 rfl ?_
          refine zw_push zr_0_762 ?_
          refine zw_16 zr_0_763 (by omega) ?_
          refine zw_100 zr_0_764 rfl (by omega) (by omega) ?_
          intro x197 ex197 hx197a hx197b
          clear ex197
          refine zw_7s zr_0_765 rfl ?_
          refine zw_3 zr_0_766 rfl ?_
          refine zw_push zr_0_767 ?_
          refine zw_16 zr_0_768 (by omega) ?_
          refine zw_100 zr_0_769 rfl (by omega) (by omega) ?_
          intro x198 ex198 hx198a hx198b
          clear ex198
          refine zw_C zr_0_770 (Or.inl rfl) zm_186 rfl rfl ⟨Nat.le_of_ble_eq_true rfl, Nat.le_of_ble_eq_true rfl, Nat.le_of_ble_eq_true rfl, rfl, by decide⟩ (by omega) (th_186 (d := d - 1) (by omega) hIm194 (a0 := x196) (a1 := x197) (a2 := x198)   (by omega) (by omega) (by omega)) ?_
          rintro _ m199 ⟨r200, rfl, hr200a, hr200b, hIm199, gm199⟩
          have hFm199 : zFr W_0 m0 m199 := hFm194.trans gm199 rfl
          show zW E (d) 0 773 [(6, 0), (2, 0), (2, 69), (0, i2)] [(0, r200)] m199 Q
          refine zw_115 zr_0_773 rfl ?_
          refine zw_42 zr_0_774 ?_
          refine zw_15 (c := 6) (L' := [(6, 0), (2, 0), (2, 69), (0, (i2 + 6))]) zr_0_1238 rfl (by decide) (by omega) rfl ?_
          refine zw_42 zr_0_1241 ?_
          exact zw_less (L := [(6, 0), (2, 0), (2, 69), (0, (i2 + 6))]) ⟨Or.inr rfl, Or.inr rfl, Or.inr rfl, Or.inr rfl, trivial⟩ (ihlp18_4 ((i2 + 6)) m199 hIm199 hFm199   (by omega) (by omega) (by omega))
        by_cases h201 : x9 = 17
        · refine zw_111 (t := 777) zr_0_33 (by rw [h201]; rfl) ?_
          refine zw_7 zr_0_777 rfl ?_
          refine zw_C zr_0_778 (Or.inl rfl) zm_119 rfl rfl ⟨Nat.le_of_ble_eq_true rfl, Nat.le_of_ble_eq_true rfl, Nat.le_of_ble_eq_true rfl, rfl, by decide⟩ (by omega) (th_119 (d := d - 1) (by omega) hIm3    ) ?_
          rintro _ m202 ⟨r203, rfl, hr203a, hr203b, hIm202, gm202⟩
          have hFm202 : zFr W_0 m0 m202 := hFm3.trans gm202 rfl
          show zW E (d) 0 781 [(6, 0), (2, 0), (2, 69), (0, i2)] [(1, r203)] m202 Q
          refine zw_116 zr_0_781 rfl ?_
          refine zw_7 zr_0_782 rfl ?_
          refine zw_C zr_0_783 (Or.inl rfl) zm_187 rfl rfl ⟨Nat.le_of_ble_eq_true rfl, Nat.le_of_ble_eq_true rfl, Nat.le_of_ble_eq_true rfl, rfl, by decide⟩ (by omega) (th_187 (d := d - 1) (by omega) hIm202    ) ?_
          rintro _ m204 ⟨r205, rfl, hr205a, hr205b, hIm204, gm204⟩
          have hFm204 : zFr W_0 m0 m204 := hFm202.trans gm204 rfl
          show zW E (d) 0 786 [(6, 0), (2, 0), (2, 69), (0, i2)] [(1, r205)] m204 Q
          refine zw_116 zr_0_786 rfl ?_
          refine zw_42 zr_0_787 ?_
          refine zw_15 (c := 6) (L' := [(6, 0), (2, 0), (2, 69), (0, (i2 + 6))]) zr_0_1238 rfl (by decide) (by omega) rfl ?_
          refine zw_42 zr_0_1241 ?_
          exact zw_less (L := [(6, 0), (2, 0), (2, 69), (0, (i2 + 6))]) ⟨Or.inr rfl, Or.inr rfl, Or.inr rfl, Or.inr rfl, trivial⟩ (ihlp18_4 ((i2 + 6)) m204 hIm204 hFm204   (by omega) (by omega) (by omega))
        by_cases h206 : x9 = 18
        · refine zw_111 (t := 790) zr_0_33 (by rw [h206]; rfl) ?_
          refine zw_7 zr_0_790 rfl ?_
          refine zw_7s zr_0_791 rfl ?_
          refine zw_3 zr_0_792 rfl ?_
          refine zw_push zr_0_793 ?_
          refine zw_16 zr_0_794 (by omega) ?_
          refine zw_100 zr_0_795 rfl (by omega) (by omega) ?_
          intro x207 ex207 hx207a hx207b
          clear ex207
          refine zw_C zr_0_796 (Or.inl rfl) zm_120 rfl rfl ⟨Nat.le_of_ble_eq_true rfl, Nat.le_of_ble_eq_true rfl, Nat.le_of_ble_eq_true rfl, rfl, by decide⟩ (by omega) (th_120 (d := d - 1) (by omega) hIm3 (a0 := x207)   (by omega)) ?_
          rintro _ m208 ⟨r209, rfl, hr209a, hr209b, hIm208, gm208⟩
          have hFm208 : zFr W_0 m0 m208 := hFm3.trans gm208 rfl
          show zW E (d) 0 799 [(6, 0), (2, 0), (2, 69), (0, i2)] [(0, r209)] m208 Q
          refine zw_115 zr_0_799 rfl ?_
          refine zw_7 zr_0_800 rfl ?_
          refine zw_7s zr_0_801 rfl ?_
          refine zw_3 zr_0_802 rfl ?_
          refine zw_push zr_0_803 ?_
          refine zw_16 zr_0_804 (by omega) ?_
          refine zw_100 zr_0_805 rfl (by omega) (by omega) ?_
          intro x210 ex210 hx210a hx210b
          clear ex210
          refine zw_C zr_0_806 (Or.inl rfl) zm_190 rfl rfl ⟨Nat.le_of_ble_eq_true rfl, Nat.le_of_ble_eq_true rfl, Nat.le_of_ble_eq_true rfl, rfl, by decide⟩ (by omega) (th_190 (d := d - 1) (by omega) hIm208 (a0 := x210)   (by omega)) ?_
          rintro _ m211 ⟨r212, rfl, hr212a, hr212b, hIm211, gm211⟩
          have hFm211 : zFr W_0 m0 m211 := hFm208.trans gm211 rfl
          show zW E (d) 0 809 [(6, 0), (2, 0), (2, 69), (0, i2)] [(0, r212)] m211 Q
          refine zw_115 zr_0_809 rfl ?_
          refine zw_42 zr_0_810 ?_
          refine zw_15 (c := 6) (L' := [(6, 0), (2, 0), (2, 69), (0, (i2 + 6))]) zr_0_1238 rfl (by decide) (by omega) rfl ?_
          refine zw_42 zr_0_1241 ?_
          exact zw_less (L := [(6, 0), (2, 0), (2, 69), (0, (i2 + 6))]) ⟨Or.inr rfl, Or.inr rfl, Or.inr rfl, Or.inr rfl, trivial⟩ (ihlp18_4 ((i2 + 6)) m211 hIm211 hFm211   (by omega) (by omega) (by omega))
        by_cases h213 : x9 = 19
        · refine zw_111 (t := 813) zr_0_33 (by rw [h213]; rfl) ?_
          refine zw_7 zr_0_813 rfl ?_
          refine zw_7s zr_0_814 rfl ?_
          refine zw_3 zr_0_815 rfl ?_
          refine zw_push zr_0_816 ?_
          refine zw_16 zr_0_817 (by omega) ?_
          refine zw_100 zr_0_818 rfl (by omega) (by omega) ?_
          intro x214 ex214 hx214a hx214b
          clear ex214
          refine zw_7s zr_0_819 rfl ?_
          refine zw_3 zr_0_820 rfl ?_
          refine zw_push zr_0_821 ?_
          refine zw_16 zr_0_822 (by omega) ?_
          refine zw_100 zr_0_823 rfl (by omega) (by omega) ?_
          intro x215 ex215 hx215a hx215b
          clear ex215
          refine zw_7s zr_0_824 rfl ?_
          refine zw_3 zr_0_825 rfl ?_
          refine zw_push zr_0_826 ?_
          refine zw_16 zr_0_827 (by omega) ?_
          refine zw_100 zr_0_828 rfl (by omega) (by omega) ?_
          intro x216 ex216 hx216a hx216b
          clear ex216
          refine zw_C zr_0_829 (Or.inl rfl) zm_121 rfl rfl ⟨Nat.le_of_ble_eq_true rfl, Nat.le_of_ble_eq_true rfl, Nat.le_of_ble_eq_true rfl, rfl, by decide⟩ (by omega) (th_121 (d := d - 1) (by omega) hIm3 (a0 := x214) (a1 := x215) (a2 := x216)   (by omega) (by omega) (by omega)) ?_
          rintro _ m217 ⟨r218, rfl, hr218a, hr218b, hIm217, gm217⟩
          have hFm217 : zFr W_0 m0 m217 := hFm3.trans gm217 rfl
          show zW E (d) 0 832 [(6, 0), (2, 0), (2, 69), (0, i2)] [(0, r218)] m217 Q
          refine zw_115 zr_0_832 rfl ?_
          refine zw_7 zr_0_833 rfl ?_
          refine zw_7s zr_0_834 rfl ?_
          refine zw_3 zr_0_835 rfl ?_
          refine zw_push zr_0_836 ?_
          refine zw_16 zr_0_837 (by omega) ?_
          refine zw_100 zr_0_838 rfl (by omega) (by omega) ?_
          intro x219 ex219 hx219a hx219b
          clear ex219
          refine zw_7s zr_0_839 rfl ?_
          refine zw_3 zr_0_840 rfl ?_
          refine zw_push zr_0_841 ?_
          refine zw_16 zr_0_842 (by omega) ?_
          refine zw_100 zr_0_843 rfl (by omega) (by omega) ?_
          intro x220 ex220 hx220a hx220b
          clear ex220
          refine zw_7s zr_0_844 rfl ?_
          refine zw_3 zr_0_845 rfl ?_
          refine zw_push zr_0_846 ?_
          refine zw_16 zr_0_847 (by omega) ?_
          refine zw_100 zr_0_848 rfl (by omega) (by omega) ?_
          intro x221 ex221 hx221a hx221b
          clear ex221
          refine zw_C zr_0_849 (Or.inl rfl) zm_191 rfl rfl ⟨Nat.le_of_ble_eq_true rfl, Nat.le_of_ble_eq_true rfl, Nat.le_of_ble_eq_true rfl, rfl, by decide⟩ (by omega) (th_191 (d := d - 1) (by omega) hIm217 (a0 := x219) (a1 := x220) (a2 := x221)   (by omega) (by omega) (by omega)) ?_
          rintro _ m222 ⟨r223, rfl, hr223a, hr223b, hIm222, gm222⟩
          have hFm222 : zFr W_0 m0 m222 := hFm217.trans gm222 rfl
          show zW E (d) 0 852 [(6, 0), (2, 0), (2, 69), (0, i2)] [(0, r223)] m222 Q
          refine zw_115 zr_0_852 rfl ?_
          refine zw_42 zr_0_853 ?_
          refine zw_15 (c := 6) (L' := [(6, 0), (2, 0), (2, 69), (0, (i2 + 6))]) zr_0_1238 rfl (by decide) (by omega) rfl ?_
          refine zw_42 zr_0_1241 ?_
          exact zw_less (L := [(6, 0), (2, 0), (2, 69), (0, (i2 + 6))]) ⟨Or.inr rfl, Or.inr rfl, Or.inr rfl, Or.inr rfl, trivial⟩ (ihlp18_4 ((i2 + 6)) m222 hIm222 hFm222   (by omega) (by omega) (by omega))
        by_cases h224 : x9 = 20
        · refine zw_111 (t := 856) zr_0_33 (by rw [h224]; rfl) ?_
          refine zw_7 zr_0_856 rfl ?_
          refine zw_C zr_0_857 (Or.inl rfl) zm_122 rfl rfl ⟨Nat.le_of_ble_eq_true rfl, Nat.le_of_ble_eq_true rfl, Nat.le_of_ble_eq_true rfl, rfl, by decide⟩ (by omega) (th_122 (d := d - 1) (by omega) hIm3    ) ?_
          rintro _ m225 ⟨r226, rfl, hr226a, hr226b, hIm225, gm225⟩
          have hFm225 : zFr W_0 m0 m225 := hFm3.trans gm225 rfl
          show zW E (d) 0 860 [(6, 0), (2, 0), (2, 69), (0, i2)] [(1, r226)] m225 Q
          refine zw_116 zr_0_860 rfl ?_
          refine zw_7 zr_0_861 rfl ?_
          refine zw_C zr_0_862 (Or.inl rfl) zm_192 rfl rfl ⟨Nat.le_of_ble_eq_true rfl, Nat.le_of_ble_eq_true rfl, Nat.le_of_ble_eq_true rfl, rfl, by decide⟩ (by omega) (th_192 (d := d - 1) (by omega) hIm225    ) ?_
          rintro _ m227 ⟨r228, rfl, hr228a, hr228b, hIm227, gm227⟩
          have hFm227 : zFr W_0 m0 m227 := hFm225.trans gm227 rfl
          show zW E (d) 0 865 [(6, 0), (2, 0), (2, 69), (0, i2)] [(1, r228)] m227 Q
          refine zw_116 zr_0_865 rfl ?_
          refine zw_42 zr_0_866 ?_
          refine zw_15 (c := 6) (L' := [(6, 0), (2, 0), (2, 69), (0, (i2 + 6))]) zr_0_1238 rfl (by decide) (by omega) rfl ?_
          refine zw_42 zr_0_1241 ?_
          exact zw_less (L := [(6, 0), (2, 0), (2, 69), (0, (i2 + 6))]) ⟨Or.inr rfl, Or.inr rfl, Or.inr rfl, Or.inr rfl, trivial⟩ (ihlp18_4 ((i2 + 6)) m227 hIm227 hFm227   (by omega) (by omega) (by omega))
        by_cases h229 : x9 = 21
        · refine zw_111 (t := 869) zr_0_33 (by rw [h229]; rfl) ?_
          refine zw_7 zr_0_869 rfl ?_
          refine zw_7s zr_0_870 rfl ?_
          refine zw_3 zr_0_871 rfl ?_
          refine zw_push zr_0_872 ?_
          refine zw_16 zr_0_873 (by omega) ?_
          refine zw_100 zr_0_874 rfl (by omega) (by omega) ?_
          intro x230 ex230 hx230a hx230b
          clear ex230
          refine zw_7s zr_0_875 rfl ?_
          refine zw_3 zr_0_876 rfl ?_
          refine zw_push zr_0_877 ?_
          refine zw_16 zr_0_878 (by omega) ?_
          refine zw_100 zr_0_879 rfl (by omega) (by omega) ?_
          intro x231 ex231 hx231a hx231b
          clear ex231
          refine zw_7s zr_0_880 rfl ?_
          refine zw_3 zr_0_881 rfl ?_
          refine zw_push zr_0_882 ?_
          refine zw_16 zr_0_883 (by omega) ?_
          refine zw_100 zr_0_884 rfl (by omega) (by omega) ?_
          intro x232 ex232 hx232a hx232b
          clear ex232
          refine zw_C zr_0_885 (Or.inl rfl) zm_123 rfl rfl ⟨Nat.le_of_ble_eq_true rfl, Nat.le_of_ble_eq_true rfl, Nat.le_of_ble_eq_true rfl, rfl, by decide⟩ (by omega) (th_123 (d := d - 1) (by omega) hIm3 (a0 := x230) (a1 := x231) (a2 := x232)   (by omega) (by omega) (by omega)) ?_
          rintro _ m233 ⟨r234, rfl, hr234a, hr234b, hIm233, gm233⟩
          have hFm233 : zFr W_0 m0 m233 := hFm3.trans gm233 rfl
          show zW E (d) 0 888 [(6, 0), (2, 0), (2, 69), (0, i2)] [(0, r234)] m233 Q
          refine zw_115 zr_0_888 rfl ?_
          refine zw_7 zr_0_889 rfl ?_
          refine zw_7s zr_0_890 rfl ?_
          refine zw_3 zr_0_891 rfl ?_
          refine zw_push zr_0_892 ?_
          refine zw_16 zr_0_893 (by omega) ?_
          refine zw_100 zr_0_894 rfl (by omega) (by omega) ?_
          intro x235 ex235 hx235a hx235b
          clear ex235
          refine zw_7s zr_0_895 rfl ?_
          refine zw_3 zr_0_896 rfl ?_
          refine zw_push zr_0_897 ?_
          refine zw_16 zr_0_898 (by omega) ?_
          refine zw_100 zr_0_899 rfl (by omega) (by omega) ?_
          intro x236 ex236 hx236a hx236b
          clear ex236
          refine zw_7s zr_0_900 rfl ?_
          refine zw_3 zr_0_901 rfl ?_
          refine zw_push zr_0_902 ?_
          refine zw_16 zr_0_903 (by omega) ?_
          refine zw_100 zr_0_904 rfl (by omega) (by omega) ?_
          intro x237 ex237 hx237a hx237b
          clear ex237
          refine zw_C zr_0_905 (Or.inl rfl) zm_196 rfl rfl ⟨Nat.le_of_ble_eq_true rfl, Nat.le_of_ble_eq_true rfl, Nat.le_of_ble_eq_true rfl, rfl, by decide⟩ (by omega) (th_196 (d := d - 1) (by omega) hIm233 (a0 := x235) (a1 := x236) (a2 := x237)   (by omega) (by omega) (by omega)) ?_
          rintro _ m238 ⟨r239, rfl, hr239a, hr239b, hIm238, gm238⟩
          have hFm238 : zFr W_0 m0 m238 := hFm233.trans gm238 rfl
          show zW E (d) 0 908 [(6, 0), (2, 0), (2, 69), (0, i2)] [(0, r239)] m238 Q
          refine zw_115 zr_0_908 rfl ?_
          refine zw_42 zr_0_909 ?_
          refine zw_15 (c := 6) (L' := [(6, 0), (2, 0), (2, 69), (0, (i2 + 6))]) zr_0_1238 rfl (by decide) (by omega) rfl ?_
          refine zw_42 zr_0_1241 ?_
          exact zw_less (L := [(6, 0), (2, 0), (2, 69), (0, (i2 + 6))]) ⟨Or.inr rfl, Or.inr rfl, Or.inr rfl, Or.inr rfl, trivial⟩ (ihlp18_4 ((i2 + 6)) m238 hIm238 hFm238   (by omega) (by omega) (by omega))
        by_cases h240 : x9 = 22
        · refine zw_111 (t := 912) zr_0_33 (by rw [h240]; rfl) ?_
          refine zw_7 zr_0_912 rfl ?_
          refine zw_C zr_0_913 (Or.inl rfl) zm_124 rfl rfl ⟨Nat.le_of_ble_eq_true rfl, Nat.le_of_ble_eq_true rfl, Nat.le_of_ble_eq_true rfl, rfl, by decide⟩ (by omega) (th_124 (d := d - 1) (by omega) hIm3    ) ?_
          rintro _ m241 ⟨r242, rfl, hr242a, hr242b, hIm241, gm241⟩
          have hFm241 : zFr W_0 m0 m241 := hFm3.trans gm241 rfl
          show zW E (d) 0 916 [(6, 0), (2, 0), (2, 69), (0, i2)] [(0, r242)] m241 Q
          refine zw_115 zr_0_916 rfl ?_
          refine zw_7 zr_0_917 rfl ?_
          refine zw_C zr_0_918 (Or.inl rfl) zm_198 rfl rfl ⟨Nat.le_of_ble_eq_true rfl, Nat.le_of_ble_eq_true rfl, Nat.le_of_ble_eq_true rfl, rfl, by decide⟩ (by omega) (th_198 (d := d - 1) (by omega) hIm241    ) ?_
          rintro _ _ ⟨r243, rfl, hr243a, hr243b, rfl⟩
          show zW E (d) 0 921 [(6, 0), (2, 0), (2, 69), (0, i2)] [(0, r243)] m241 Q
          refine zw_115 zr_0_921 rfl ?_
          refine zw_42 zr_0_922 ?_
          refine zw_15 (c := 6) (L' := [(6, 0), (2, 0), (2, 69), (0, (i2 + 6))]) zr_0_1238 rfl (by decide) (by omega) rfl ?_
          refine zw_42 zr_0_1241 ?_
          exact zw_less (L := [(6, 0), (2, 0), (2, 69), (0, (i2 + 6))]) ⟨Or.inr rfl, Or.inr rfl, Or.inr rfl, Or.inr rfl, trivial⟩ (ihlp18_4 ((i2 + 6)) m241 hIm241 hFm241   (by omega) (by omega) (by omega))
        by_cases h244 : x9 = 23
        · refine zw_111 (t := 925) zr_0_33 (by rw [h244]; rfl) ?_
          refine zw_7 zr_0_925 rfl ?_
          refine zw_7s zr_0_926 rfl ?_
          refine zw_3 zr_0_927 rfl ?_
          refine zw_push zr_0_928 ?_
          refine zw_16 zr_0_929 (by omega) ?_
          refine zw_100 zr_0_930 rfl (by omega) (by omega) ?_
          intro x245 ex245 hx245a hx245b
          clear ex245
          refine zw_C zr_0_931 (Or.inl rfl) zm_125 rfl rfl ⟨Nat.le_of_ble_eq_true rfl, Nat.le_of_ble_eq_true rfl, Nat.le_of_ble_eq_true rfl, rfl, by decide⟩ (by omega) (th_125 (d := d - 1) (by omega) hIm3 (a0 := x245)   (by omega)) ?_
          rintro _ m246 ⟨r247, rfl, hr247a, hr247b, hIm246, gm246⟩
          have hFm246 : zFr W_0 m0 m246 := hFm3.trans gm246 rfl
          show zW E (d) 0 934 [(6, 0), (2, 0), (2, 69), (0, i2)] [(0, r247)] m246 Q
          refine zw_115 zr_0_934 rfl ?_
          refine zw_7 zr_0_935 rfl ?_
          refine zw_7s zr_0_936 rfl ?_
          refine zw_3 zr_0_937 rfl ?_
          refine zw_push zr_0_938 ?_
          refine zw_16 zr_0_939 (by omega) ?_
          refine zw_100 zr_0_940 rfl (by omega) (by omega) ?_
          intro x248 ex248 hx248a hx248b
          clear ex248
          refine zw_C zr_0_941 (Or.inl rfl) zm_199 rfl rfl ⟨Nat.le_of_ble_eq_true rfl, Nat.le_of_ble_eq_true rfl, Nat.le_of_ble_eq_true rfl, rfl, by decide⟩ (by omega) (th_199 (d := d - 1) (by omega) hIm246 (a0 := x248)   (by omega)) ?_
          rintro _ m249 ⟨r250, rfl, hr250a, hr250b, hIm249, gm249⟩
          have hFm249 : zFr W_0 m0 m249 := hFm246.trans gm249 rfl
          show zW E (d) 0 944 [(6, 0), (2, 0), (2, 69), (0, i2)] [(0, r250)] m249 Q
          refine zw_115 zr_0_944 rfl ?_
          refine zw_42 zr_0_945 ?_
          refine zw_15 (c := 6) (L' := [(6, 0), (2, 0), (2, 69), (0, (i2 + 6))]) zr_0_1238 rfl (by decide) (by omega) rfl ?_
          refine zw_42 zr_0_1241 ?_
          exact zw_less (L := [(6, 0), (2, 0), (2, 69), (0, (i2 + 6))]) ⟨Or.inr rfl, Or.inr rfl, Or.inr rfl, Or.inr rfl, trivial⟩ (ihlp18_4 ((i2 + 6)) m249 hIm249 hFm249   (by omega) (by omega) (by omega))
        by_cases h251 : x9 = 24
        · refine zw_111 (t := 948) zr_0_33 (by rw [h251]; rfl) ?_
          refine zw_7 zr_0_948 rfl ?_
          refine zw_7s zr_0_949 rfl ?_
          refine zw_3 zr_0_950 rfl ?_
          refine zw_push zr_0_951 ?_
          refine zw_16 zr_0_952 (by omega) ?_
          refine zw_100 zr_0_953 rfl (by omega) (by omega) ?_
          intro x252 ex252 hx252a hx252b
          clear ex252
          refine zw_7s zr_0_954 rfl ?_
          refine zw_3 zr_0_955 rfl ?_
          refine zw_push zr_0_956 ?_
          refine zw_16 zr_0_957 (by omega) ?_
          refine zw_100 zr_0_958 rfl (by omega) (by omega) ?_
          intro x253 ex253 hx253a hx253b
          clear ex253
          refine zw_7s zr_0_959 rfl ?_
          refine zw_3 zr_0_960 rfl ?_
          refine zw_push zr_0_961 ?_
          refine zw_16 zr_0_962 (by omega) ?_
          refine zw_100 zr_0_963 rfl (by omega) (by omega) ?_
          intro x254 ex254 hx254a hx254b
          clear ex254
          refine zw_7s zr_0_964 rfl ?_
          refine zw_3 zr_0_965 rfl ?_
          refine zw_push zr_0_966 ?_
          refine zw_16 zr_0_967 (by omega) ?_
          refine zw_100 zr_0_968 rfl (by omega) (by omega) ?_
          intro x255 ex255 hx255a hx255b
          clear ex255
          refine zw_C zr_0_969 (Or.inl rfl) zm_126 rfl rfl ⟨Nat.le_of_ble_eq_true rfl, Nat.le_of_ble_eq_true rfl, Nat.le_of_ble_eq_true rfl, rfl, by decide⟩ (by omega) (th_126 (d := d - 1) (by omega) hIm3 (a0 := x252) (a1 := x253) (a2 := x254) (a3 := x255)   (by omega) (by omega) (by omega) (by omega)) ?_
          rintro _ m256 ⟨r257, rfl, hr257a, hr257b, hIm256, gm256⟩
          have hFm256 : zFr W_0 m0 m256 := hFm3.trans gm256 rfl
          show zW E (d) 0 972 [(6, 0), (2, 0), (2, 69), (0, i2)] [(0, r257)] m256 Q
          refine zw_115 zr_0_972 rfl ?_
          refine zw_7 zr_0_973 rfl ?_
          refine zw_7s zr_0_974 rfl ?_
          refine zw_3 zr_0_975 rfl ?_
          refine zw_push zr_0_976 ?_
          refine zw_16 zr_0_977 (by omega) ?_
          refine zw_100 zr_0_978 rfl (by omega) (by omega) ?_
          intro x258 ex258 hx258a hx258b
          clear ex258
          refine zw_7s zr_0_979 rfl ?_
          refine zw_3 zr_0_980 rfl ?_
          refine zw_push zr_0_981 ?_
          refine zw_16 zr_0_982 (by omega) ?_
          refine zw_100 zr_0_983 rfl (by omega) (by omega) ?_
          intro x259 ex259 hx259a hx259b
          clear ex259
          refine zw_7s zr_0_984 rfl ?_
          refine zw_3 zr_0_985 rfl ?_
          refine zw_push zr_0_986 ?_
          refine zw_16 zr_0_987 (by omega) ?_
          refine zw_100 zr_0_988 rfl (by omega) (by omega) ?_
          intro x260 ex260 hx260a hx260b
          clear ex260
          refine zw_7s zr_0_989 rfl ?_
          refine zw_3 zr_0_990 rfl ?_
          refine zw_push zr_0_991 ?_
          refine zw_16 zr_0_992 (by omega) ?_
          refine zw_100 zr_0_993 rfl (by omega) (by omega) ?_
          intro x261 ex261 hx261a hx261b
          clear ex261
          refine zw_C zr_0_994 (Or.inl rfl) zm_202 rfl rfl ⟨Nat.le_of_ble_eq_true rfl, Nat.le_of_ble_eq_true rfl, Nat.le_of_ble_eq_true rfl, rfl, by decide⟩ (by omega) (th_202 (d := d - 1) (by omega) hIm256 (a0 := x258) (a1 := x259) (a2 := x260) (a3 := x261)   (by omega) (by omega) (by omega) (by omega)) ?_
          rintro _ m262 ⟨r263, rfl, hr263a, hr263b, hIm262, gm262⟩
          have hFm262 : zFr W_0 m0 m262 := hFm256.trans gm262 rfl
          show zW E (d) 0 997 [(6, 0), (2, 0), (2, 69), (0, i2)] [(0, r263)] m262 Q
          refine zw_115 zr_0_997 rfl ?_
          refine zw_42 zr_0_998 ?_
          refine zw_15 (c := 6) (L' := [(6, 0), (2, 0), (2, 69), (0, (i2 + 6))]) zr_0_1238 rfl (by decide) (by omega) rfl ?_
          refine zw_42 zr_0_1241 ?_
          exact zw_less (L := [(6, 0), (2, 0), (2, 69), (0, (i2 + 6))]) ⟨Or.inr rfl, Or.inr rfl, Or.inr rfl, Or.inr rfl, trivial⟩ (ihlp18_4 ((i2 + 6)) m262 hIm262 hFm262   (by omega) (by omega) (by omega))
        by_cases h264 : x9 = 25
        · refine zw_111 (t := 1001) zr_0_33 (by rw [h264]; rfl) ?_
          refine zw_7 zr_0_1001 rfl ?_
          refine zw_C zr_0_1002 (Or.inl rfl) zm_127 rfl rfl ⟨Nat.le_of_ble_eq_true rfl, Nat.le_of_ble_eq_true rfl, Nat.le_of_ble_eq_true rfl, rfl, by decide⟩ (by omega) (th_127 (d := d - 1) (by omega) hIm3    ) ?_
          rintro _ _ ⟨r265, rfl, hr265a, hr265b, rfl⟩
          show zW E (d) 0 1005 [(6, 0), (2, 0), (2, 69), (0, i2)] [(0, r265)] m3 Q
          refine zw_115 zr_0_1005 rfl ?_
          refine zw_7 zr_0_1006 rfl ?_
          refine zw_C zr_0_1007 (Or.inl rfl) zm_203 rfl rfl ⟨Nat.le_of_ble_eq_true rfl, Nat.le_of_ble_eq_true rfl, Nat.le_of_ble_eq_true rfl, rfl, by decide⟩ (by omega) (th_203 (d := d - 1) (by omega) hIm3    ) ?_
          rintro _ _ ⟨r266, rfl, hr266a, hr266b, rfl⟩
          show zW E (d) 0 1010 [(6, 0), (2, 0), (2, 69), (0, i2)] [(0, r266)] m3 Q
          refine zw_115 zr_0_1010 rfl ?_
          refine zw_42 zr_0_1011 ?_
          refine zw_15 (c := 6) (L' := [(6, 0), (2, 0), (2, 69), (0, (i2 + 6))]) zr_0_1238 rfl (by decide) (by omega) rfl ?_
          refine zw_42 zr_0_1241 ?_
          exact zw_less (L := [(6, 0), (2, 0), (2, 69), (0, (i2 + 6))]) ⟨Or.inr rfl, Or.inr rfl, Or.inr rfl, Or.inr rfl, trivial⟩ (ihlp18_4 ((i2 + 6)) m3 hIm3 hFm3   (by omega) (by omega) (by omega))
        by_cases h267 : x9 = 26
        · refine zw_111 (t := 1014) zr_0_33 (by rw [h267]; rfl) ?_
          refine zw_7 zr_0_1014 rfl ?_
          refine zw_7s zr_0_1015 rfl ?_
          refine zw_3 zr_0_1016 rfl ?_
          refine zw_push zr_0_1017 ?_
          refine zw_16 zr_0_1018 (by omega) ?_
          refine zw_100 zr_0_1019 rfl (by omega) (by omega) ?_
          intro x268 ex268 hx268a hx268b
          clear ex268
          refine zw_7s zr_0_1020 rfl ?_
          refine zw_3 zr_0_1021 rfl ?_
          refine zw_push zr_0_1022 ?_
          refine zw_16 zr_0_1023 (by omega) ?_
          refine zw_100 zr_0_1024 rfl (by omega) (by omega) ?_
          intro x269 ex269 hx269a hx269b
          clear ex269
          refine zw_7s zr_0_1025 rfl ?_
          refine zw_3 zr_0_1026 rfl ?_
          refine zw_push zr_0_1027 ?_
          refine zw_16 zr_0_1028 (by omega) ?_
          refine zw_100 zr_0_1029 rfl (by omega) (by omega) ?_
          intro x270 ex270 hx270a hx270b
          clear ex270
          refine zw_7s zr_0_1030 rfl ?_
          refine zw_3 zr_0_1031 rfl ?_
          refine zw_push zr_0_1032 ?_
          refine zw_16 zr_0_1033 (by omega) ?_
          refine zw_100 zr_0_1034 rfl (by omega) (by omega) ?_
          intro x271 ex271 hx271a hx271b
          clear ex271
          refine zw_C zr_0_1035 (Or.inl rfl) zm_129 rfl rfl ⟨Nat.le_of_ble_eq_true rfl, Nat.le_of_ble_eq_true rfl, Nat.le_of_ble_eq_true rfl, rfl, by decide⟩ (by omega) (th_129 (d := d - 1) (by omega) hIm3 (a0 := x268) (a1 := x269) (a2 := x270) (a3 := x271)   (by omega) (by omega) (by omega) (by omega)) ?_
          rintro _ m272 ⟨r273, rfl, hr273a, hr273b, hIm272, gm272⟩
          have hFm272 : zFr W_0 m0 m272 := hFm3.trans gm272 rfl
          show zW E (d) 0 1038 [(6, 0), (2, 0), (2, 69), (0, i2)] [(0, r273)] m272 Q
          refine zw_115 zr_0_1038 rfl ?_
          refine zw_7 zr_0_1039 rfl ?_
          refine zw_7s zr_0_1040 rfl ?_
          refine zw_3 zr_0_1041 rfl ?_
          refine zw_push zr_0_1042 ?_
          refine zw_16 zr_0_1043 (by omega) ?_
          refine zw_100 zr_0_1044 rfl (by omega) (by omega) ?_
          intro x274 ex274 hx274a hx274b
          clear ex274
          refine zw_7s zr_0_1045 rfl ?_
          refine zw_3 zr_0_1046 rfl ?_
          refine zw_push zr_0_1047 ?_
          refine zw_16 zr_0_1048 (by omega) ?_
          refine zw_100 zr_0_1049 rfl (by omega) (by omega) ?_
          intro x275 ex275 hx275a hx275b
          clear ex275
          refine zw_7s zr_0_1050 rfl ?_
          refine zw_3 zr_0_1051 rfl ?_
          refine zw_push zr_0_1052 ?_
          refine zw_16 zr_0_1053 (by omega) ?_
          refine zw_100 zr_0_1054 rfl (by omega) (by omega) ?_
          intro x276 ex276 hx276a hx276b
          clear ex276
          refine zw_7s zr_0_1055 rfl ?_
          refine zw_3 zr_0_1056 rfl ?_
          refine zw_push zr_0_1057 ?_
          refine zw_16 zr_0_1058 (by omega) ?_
          refine zw_100 zr_0_1059 rfl (by omega) (by omega) ?_
          intro x277 ex277 hx277a hx277b
          clear ex277
          refine zw_C zr_0_1060 (Or.inl rfl) zm_204 rfl rfl ⟨Nat.le_of_ble_eq_true rfl, Nat.le_of_ble_eq_true rfl, Nat.le_of_ble_eq_true rfl, rfl, by decide⟩ (by omega) (th_204 (d := d - 1) (by omega) hIm272 (a0 := x274) (a1 := x275) (a2 := x276) (a3 := x277)   (by omega) (by omega) (by omega) (by omega)) ?_
          rintro _ m278 ⟨r279, rfl, hr279a, hr279b, hIm278, gm278⟩
          have hFm278 : zFr W_0 m0 m278 := hFm272.trans gm278 rfl
          show zW E (d) 0 1063 [(6, 0), (2, 0), (2, 69), (0, i2)] [(0, r279)] m278 Q
          refine zw_115 zr_0_1063 rfl ?_
          refine zw_42 zr_0_1064 ?_
          refine zw_15 (c := 6) (L' := [(6, 0), (2, 0), (2, 69), (0, (i2 + 6))]) zr_0_1238 rfl (by decide) (by omega) rfl ?_
          refine zw_42 zr_0_1241 ?_
          exact zw_less (L := [(6, 0), (2, 0), (2, 69), (0, (i2 + 6))]) ⟨Or.inr rfl, Or.inr rfl, Or.inr rfl, Or.inr rfl, trivial⟩ (ihlp18_4 ((i2 + 6)) m278 hIm278 hFm278   (by omega) (by omega) (by omega))
        by_cases h280 : x9 = 27
        · refine zw_111 (t := 1067) zr_0_33 (by rw [h280]; rfl) ?_
          refine zw_7 zr_0_1067 rfl ?_
          refine zw_7s zr_0_1068 rfl ?_
          refine zw_3 zr_0_1069 rfl ?_
          refine zw_push zr_0_1070 ?_
          refine zw_16 zr_0_1071 (by omega) ?_
          refine zw_100 zr_0_1072 rfl (by omega) (by omega) ?_
          intro x281 ex281 hx281a hx281b
          clear ex281
          refine zw_7s zr_0_1073 rfl ?_
          refine zw_3 zr_0_1074 rfl ?_
          refine zw_push zr_0_1075 ?_
          refine zw_16 zr_0_1076 (by omega) ?_
          refine zw_100 zr_0_1077 rfl (by omega) (by omega) ?_
          intro x282 ex282 hx282a hx282b
          clear ex282
          refine zw_C zr_0_1078 (Or.inl rfl) zm_130 rfl rfl ⟨Nat.le_of_ble_eq_true rfl, Nat.le_of_ble_eq_true rfl, Nat.le_of_ble_eq_true rfl, rfl, by decide⟩ (by omega) (th_130 (d := d - 1) (by omega) hIm3 (a0 := x281) (a1 := x282)   (by omega) (by omega)) ?_
          rintro _ m283 ⟨r284, rfl, hr284a, hr284b, hIm283, gm283⟩
          have hFm283 : zFr W_0 m0 m283 := hFm3.trans gm283 rfl
          show zW E (d) 0 1081 [(6, 0), (2, 0), (2, 69), (0, i2)] [(0, r284)] m283 Q
          refine zw_115 zr_0_1081 rfl ?_
          refine zw_7 zr_0_1082 rfl ?_
          refine zw_7s zr_0_1083 rfl ?_
          refine zw_3 zr_0_1084 rfl ?_
          refine zw_push zr_0_1085 ?_
          refine zw_16 zr_0_1086 (by omega) ?_
          refine zw_100 zr_0_1087 rfl (by omega) (by omega) ?_
          intro x285 ex285 hx285a hx285b
          clear ex285
          refine zw_7s zr_0_1088 rfl ?_
          refine zw_3 zr_0_1089 rfl ?_
          refine zw_push zr_0_1090 ?_
          refine zw_16 zr_0_1091 (by omega) ?_
          refine zw_100 zr_0_1092 rfl (by omega) (by omega) ?_
          intro x286 ex286 hx286a hx286b
          clear ex286
          refine zw_C zr_0_1093 (Or.inl rfl) zm_205 rfl rfl ⟨Nat.le_of_ble_eq_true rfl, Nat.le_of_ble_eq_true rfl, Nat.le_of_ble_eq_true rfl, rfl, by decide⟩ (by omega) (th_205 (d := d - 1) (by omega) hIm283 (a0 := x285) (a1 := x286)   (by omega) (by omega)) ?_
          rintro _ m287 ⟨r288, rfl, hr288a, hr288b, hIm287, gm287⟩
          have hFm287 : zFr W_0 m0 m287 := hFm283.trans gm287 rfl
          show zW E (d) 0 1096 [(6, 0), (2, 0), (2, 69), (0, i2)] [(0, r288)] m287 Q
          refine zw_115 zr_0_1096 rfl ?_
          refine zw_42 zr_0_1097 ?_
          refine zw_15 (c := 6) (L' := [(6, 0), (2, 0), (2, 69), (0, (i2 + 6))]) zr_0_1238 rfl (by decide) (by omega) rfl ?_
          refine zw_42 zr_0_1241 ?_
          exact zw_less (L := [(6, 0), (2, 0), (2, 69), (0, (i2 + 6))]) ⟨Or.inr rfl, Or.inr rfl, Or.inr rfl, Or.inr rfl, trivial⟩ (ihlp18_4 ((i2 + 6)) m287 hIm287 hFm287   (by omega) (by omega) (by omega))
        by_cases h289 : x9 = 28
        · refine zw_111 (t := 1100) zr_0_33 (by rw [h289]; rfl) ?_
          refine zw_7 zr_0_1100 rfl ?_
          refine zw_7s zr_0_1101 rfl ?_
          refine zw_3 zr_0_1102 rfl ?_
          refine zw_push zr_0_1103 ?_
          refine zw_16 zr_0_1104 (by omega) ?_
          refine zw_100 zr_0_1105 rfl (by omega) (by omega) ?_
          intro x290 ex290 hx290a hx290b
          clear ex290
          refine zw_7s zr_0_1106 rfl ?_
          refine zw_3 zr_0_1107 rfl ?_
          refine zw_push zr_0_1108 ?_
          refine zw_16 zr_0_1109 (by omega) ?_
          refine zw_100 zr_0_1110 rfl (by omega) (by omega) ?_
          intro x291 ex291 hx291a hx291b
          clear ex291
          refine zw_C zr_0_1111 (Or.inl rfl) zm_132 rfl rfl ⟨Nat.le_of_ble_eq_true rfl, Nat.le_of_ble_eq_true rfl, Nat.le_of_ble_eq_true rfl, rfl, by decide⟩ (by omega) (th_132 (d := d - 1) (by omega) hIm3 (a0 := x290) (a1 := x291)   (by omega) (by omega)) ?_
          rintro _ m292 ⟨r293, rfl, hr293a, hr293b, hIm292, gm292⟩
          have hFm292 : zFr W_0 m0 m292 := hFm3.trans gm292 rfl
          show zW E (d) 0 1114 [(6, 0), (2, 0), (2, 69), (0, i2)] [(0, r293)] m292 Q
          refine zw_115 zr_0_1114 rfl ?_
          refine zw_7 zr_0_1115 rfl ?_
          refine zw_7s zr_0_1116 rfl ?_
          refine zw_3 zr_0_1117 rfl ?_
          refine zw_push zr_0_1118 ?_
          refine zw_16 zr_0_1119 (by omega) ?_
          refine zw_100 zr_0_1120 rfl (by omega) (by omega) ?_
          intro x294 ex294 hx294a hx294b
          clear ex294
          refine zw_7s zr_0_1121 rfl ?_
          refine zw_3 zr_0_1122 rfl ?_
          refine zw_push zr_0_1123 ?_
          refine zw_16 zr_0_1124 (by omega) ?_
          refine zw_100 zr_0_1125 rfl (by omega) (by omega) ?_
          intro x295 ex295 hx295a hx295b
          clear ex295
          refine zw_C zr_0_1126 (Or.inl rfl) zm_206 rfl rfl ⟨Nat.le_of_ble_eq_true rfl, Nat.le_of_ble_eq_true rfl, Nat.le_of_ble_eq_true rfl, rfl, by decide⟩ (by omega) (th_206 (d := d - 1) (by omega) hIm292 (a0 := x294) (a1 := x295)   (by omega) (by omega)) ?_
          rintro _ m296 ⟨r297, rfl, hr297a, hr297b, hIm296, gm296⟩
          have hFm296 : zFr W_0 m0 m296 := hFm292.trans gm296 rfl
          show zW E (d) 0 1129 [(6, 0), (2, 0), (2, 69), (0, i2)] [(0, r297)] m296 Q
          refine zw_115 zr_0_1129 rfl ?_
          refine zw_42 zr_0_1130 ?_
          refine zw_15 (c := 6) (L' := [(6, 0), (2, 0), (2, 69), (0, (i2 + 6))]) zr_0_1238 rfl (by decide) (by omega) rfl ?_
          refine zw_42 zr_0_1241 ?_
          exact zw_less (L := [(6, 0), (2, 0), (2, 69), (0, (i2 + 6))]) ⟨Or.inr rfl, Or.inr rfl, Or.inr rfl, Or.inr rfl, trivial⟩ (ihlp18_4 ((i2 + 6)) m296 hIm296 hFm296   (by omega) (by omega) (by omega))
        by_cases h298 : x9 = 29
        · refine zw_111 (t := 1133) zr_0_33 (by rw [h298]; rfl) ?_
          refine zw_7 zr_0_1133 rfl ?_
          refine zw_7s zr_0_1134 rfl ?_
          refine zw_3 zr_0_1135 rfl ?_
          refine zw_push zr_0_1136 ?_
          refine zw_16 zr_0_1137 (by omega) ?_
          refine zw_100 zr_0_1138 rfl (by omega) (by omega) ?_
          intro x299 ex299 hx299a hx299b
          clear ex299
          refine zw_C zr_0_1139 (Or.inl rfl) zm_133 rfl rfl ⟨Nat.le_of_ble_eq_true rfl, Nat.le_of_ble_eq_true rfl, Nat.le_of_ble_eq_true rfl, rfl, by decide⟩ (by omega) (th_133 (d := d - 1) (by omega) hIm3 (a0 := x299)   (by omega)) ?_
          rintro _ _ ⟨r300, rfl, hr300a, hr300b, rfl⟩
          show zW E (d) 0 1142 [(6, 0), (2, 0), (2, 69), (0, i2)] [(1, r300)] m3 Q
          refine zw_116 zr_0_1142 rfl ?_
          refine zw_7 zr_0_1143 rfl ?_
          refine zw_7s zr_0_1144 rfl ?_
          refine zw_3 zr_0_1145 rfl ?_
          refine zw_push zr_0_1146 ?_
          refine zw_16 zr_0_1147 (by omega) ?_
          refine zw_100 zr_0_1148 rfl (by omega) (by omega) ?_
          intro x301 ex301 hx301a hx301b
          clear ex301
          refine zw_C zr_0_1149 (Or.inl rfl) zm_207 rfl rfl ⟨Nat.le_of_ble_eq_true rfl, Nat.le_of_ble_eq_true rfl, Nat.le_of_ble_eq_true rfl, rfl, by decide⟩ (by omega) (th_207 (d := d - 1) (by omega) hIm3 (a0 := x301)   (by omega)) ?_
          rintro _ _ ⟨r302, rfl, hr302a, hr302b, rfl⟩
          show zW E (d) 0 1152 [(6, 0), (2, 0), (2, 69), (0, i2)] [(1, r302)] m3 Q
          refine zw_116 zr_0_1152 rfl ?_
          refine zw_42 zr_0_1153 ?_
          refine zw_15 (c := 6) (L' := [(6, 0), (2, 0), (2, 69), (0, (i2 + 6))]) zr_0_1238 rfl (by decide) (by omega) rfl ?_
          refine zw_42 zr_0_1241 ?_
          exact zw_less (L := [(6, 0), (2, 0), (2, 69), (0, (i2 + 6))]) ⟨Or.inr rfl, Or.inr rfl, Or.inr rfl, Or.inr rfl, trivial⟩ (ihlp18_4 ((i2 + 6)) m3 hIm3 hFm3   (by omega) (by omega) (by omega))
        by_cases h303 : x9 = 30
        · refine zw_111 (t := 1156) zr_0_33 (by rw [h303]; rfl) ?_
          refine zw_7 zr_0_1156 rfl ?_
          refine zw_7s zr_0_1157 rfl ?_
          refine zw_3 zr_0_1158 rfl ?_
          refine zw_push zr_0_1159 ?_
          refine zw_16 zr_0_1160 (by omega) ?_
          refine zw_100 zr_0_1161 rfl (by omega) (by omega) ?_
          intro x304 ex304 hx304a hx304b
          clear ex304
          refine zw_C zr_0_1162 (Or.inl rfl) zm_134 rfl rfl ⟨Nat.le_of_ble_eq_true rfl, Nat.le_of_ble_eq_true rfl, Nat.le_of_ble_eq_true rfl, rfl, by decide⟩ (by omega) (th_134 (d := d - 1) (by omega) hIm3 (a0 := x304)   (by omega)) ?_
          rintro _ m305 ⟨r306, rfl, hr306a, hr306b, hIm305, gm305⟩
          have hFm305 : zFr W_0 m0 m305 := hFm3.trans gm305 rfl
          show zW E (d) 0 1165 [(6, 0), (2, 0), (2, 69), (0, i2)] [(0, r306)] m305 Q
          refine zw_115 zr_0_1165 rfl ?_
          refine zw_7 zr_0_1166 rfl ?_
          refine zw_7s zr_0_1167 rfl ?_
          refine zw_3 zr_0_1168 rfl ?_
          refine zw_push zr_0_1169 ?_
          refine zw_16 zr_0_1170 (by omega) ?_
          refine zw_100 zr_0_1171 rfl (by omega) (by omega) ?_
          intro x307 ex307 hx307a hx307b
          clear ex307
          refine zw_C zr_0_1172 (Or.inl rfl) zm_208 rfl rfl ⟨Nat.le_of_ble_eq_true rfl, Nat.le_of_ble_eq_true rfl, Nat.le_of_ble_eq_true rfl, rfl, by decide⟩ (by omega) (th_208 (d := d - 1) (by omega) hIm305 (a0 := x307)   (by omega)) ?_
          rintro _ m308 ⟨r309, rfl, hr309a, hr309b, hIm308, gm308⟩
          have hFm308 : zFr W_0 m0 m308 := hFm305.trans gm308 rfl
          show zW E (d) 0 1175 [(6, 0), (2, 0), (2, 69), (0, i2)] [(0, r309)] m308 Q
          refine zw_115 zr_0_1175 rfl ?_
          refine zw_42 zr_0_1176 ?_
          refine zw_15 (c := 6) (L' := [(6, 0), (2, 0), (2, 69), (0, (i2 + 6))]) zr_0_1238 rfl (by decide) (by omega) rfl ?_
          refine zw_42 zr_0_1241 ?_
          exact zw_less (L := [(6, 0), (2, 0), (2, 69), (0, (i2 + 6))]) ⟨Or.inr rfl, Or.inr rfl, Or.inr rfl, Or.inr rfl, trivial⟩ (ihlp18_4 ((i2 + 6)) m308 hIm308 hFm308   (by omega) (by omega) (by omega))
        by_cases h310 : x9 = 31
        · refine zw_111 (t := 1179) zr_0_33 (by rw [h310]; rfl) ?_
          refine zw_7 zr_0_1179 rfl ?_
          refine zw_7s zr_0_1180 rfl ?_
          refine zw_3 zr_0_1181 rfl ?_
          refine zw_push zr_0_1182 ?_
          refine zw_16 zr_0_1183 (by omega) ?_
          refine zw_100 zr_0_1184 rfl (by omega) (by omega) ?_
          intro x311 ex311 hx311a hx311b
          clear ex311
          refine zw_C zr_0_1185 (Or.inl rfl) zm_135 rfl rfl ⟨Nat.le_of_ble_eq_true rfl, Nat.le_of_ble_eq_true rfl, Nat.le_of_ble_eq_true rfl, rfl, by decide⟩ (by omega) (th_135 (d := d - 1) (by omega) hIm3 (a0 := x311)   (by omega)) ?_
          rintro _ m312 ⟨r313, rfl, hr313a, hr313b, hIm312, gm312⟩
          have hFm312 : zFr W_0 m0 m312 := hFm3.trans gm312 rfl
          show zW E (d) 0 1188 [(6, 0), (2, 0), (2, 69), (0, i2)] [(0, r313)] m312 Q
          refine zw_115 zr_0_1188 rfl ?_
          refine zw_7 zr_0_1189 rfl ?_
          refine zw_7s zr_0_1190 rfl ?_
          refine zw_3 zr_0_1191 rfl ?_
          refine zw_push zr_0_1192 ?_
          refine zw_16 zr_0_1193 (by omega) ?_
          refine zw_100 zr_0_1194 rfl (by omega) (by omega) ?_
          intro x314 ex314 hx314a hx314b
          clear ex314
          refine zw_C zr_0_1195 (Or.inl rfl) zm_209 rfl rfl ⟨Nat.le_of_ble_eq_true rfl, Nat.le_of_ble_eq_true rfl, Nat.le_of_ble_eq_true rfl, rfl, by decide⟩ (by omega) (th_209 (d := d - 1) (by omega) hIm312 (a0 := x314)   (by omega)) ?_
          rintro _ m315 ⟨r316, rfl, hr316a, hr316b, hIm315, gm315⟩
          have hFm315 : zFr W_0 m0 m315 := hFm312.trans gm315 rfl
          show zW E (d) 0 1198 [(6, 0), (2, 0), (2, 69), (0, i2)] [(0, r316)] m315 Q
          refine zw_115 zr_0_1198 rfl ?_
          refine zw_42 zr_0_1199 ?_
          refine zw_15 (c := 6) (L' := [(6, 0), (2, 0), (2, 69), (0, (i2 + 6))]) zr_0_1238 rfl (by decide) (by omega) rfl ?_
          refine zw_42 zr_0_1241 ?_
          exact zw_less (L := [(6, 0), (2, 0), (2, 69), (0, (i2 + 6))]) ⟨Or.inr rfl, Or.inr rfl, Or.inr rfl, Or.inr rfl, trivial⟩ (ihlp18_4 ((i2 + 6)) m315 hIm315 hFm315   (by omega) (by omega) (by omega))
        by_cases h317 : x9 = 32
        · refine zw_111 (t := 1202) zr_0_33 (by rw [h317]; rfl) ?_
          refine zw_7 zr_0_1202 rfl ?_
          refine zw_7s zr_0_1203 rfl ?_
          refine zw_3 zr_0_1204 rfl ?_
          refine zw_push zr_0_1205 ?_
          refine zw_16 zr_0_1206 (by omega) ?_
          refine zw_100 zr_0_1207 rfl (by omega) (by omega) ?_
          intro x318 ex318 hx318a hx318b
          clear ex318
          refine zw_C zr_0_1208 (Or.inl rfl) zm_137 rfl rfl ⟨Nat.le_of_ble_eq_true rfl, Nat.le_of_ble_eq_true rfl, Nat.le_of_ble_eq_true rfl, rfl, by decide⟩ (by omega) (th_137 (d := d - 1) (by omega) hIm3 (a0 := x318)   (by omega)) ?_
          rintro _ _ ⟨r319, rfl, hr319a, hr319b, rfl⟩
          show zW E (d) 0 1211 [(6, 0), (2, 0), (2, 69), (0, i2)] [(0, r319)] m3 Q
          refine zw_115 zr_0_1211 rfl ?_
          refine zw_7 zr_0_1212 rfl ?_
          refine zw_7s zr_0_1213 rfl ?_
          refine zw_3 zr_0_1214 rfl ?_
          refine zw_push zr_0_1215 ?_
          refine zw_16 zr_0_1216 (by omega) ?_
          refine zw_100 zr_0_1217 rfl (by omega) (by omega) ?_
          intro x320 ex320 hx320a hx320b
          clear ex320
          refine zw_C zr_0_1218 (Or.inl rfl) zm_210 rfl rfl ⟨Nat.le_of_ble_eq_true rfl, Nat.le_of_ble_eq_true rfl, Nat.le_of_ble_eq_true rfl, rfl, by decide⟩ (by omega) (th_210 (d := d - 1) (by omega) hIm3 (a0 := x320)   (by omega)) ?_
          rintro _ _ ⟨r321, rfl, hr321a, hr321b, rfl⟩
          show zW E (d) 0 1221 [(6, 0), (2, 0), (2, 69), (0, i2)] [(0, r321)] m3 Q
          refine zw_115 zr_0_1221 rfl ?_
          refine zw_42 zr_0_1222 ?_
          refine zw_15 (c := 6) (L' := [(6, 0), (2, 0), (2, 69), (0, (i2 + 6))]) zr_0_1238 rfl (by decide) (by omega) rfl ?_
          refine zw_42 zr_0_1241 ?_
          exact zw_less (L := [(6, 0), (2, 0), (2, 69), (0, (i2 + 6))]) ⟨Or.inr rfl, Or.inr rfl, Or.inr rfl, Or.inr rfl, trivial⟩ (ihlp18_4 ((i2 + 6)) m3 hIm3 hFm3   (by omega) (by omega) (by omega))
        by_cases h322 : x9 = 33
        · refine zw_111 (t := 1225) zr_0_33 (by rw [h322]; rfl) ?_
          refine zw_7 zr_0_1225 rfl ?_
          refine zw_C zr_0_1226 (Or.inl rfl) zm_138 rfl rfl ⟨Nat.le_of_ble_eq_true rfl, Nat.le_of_ble_eq_true rfl, Nat.le_of_ble_eq_true rfl, rfl, by decide⟩ (by omega) (th_138 (d := d - 1) (by omega) hIm3    ) ?_
          rintro _ _ ⟨r323, rfl, hr323a, hr323b, rfl⟩
          show zW E (d) 0 1229 [(6, 0), (2, 0), (2, 69), (0, i2)] [(1, r323)] m3 Q
          refine zw_116 zr_0_1229 rfl ?_
          refine zw_7 zr_0_1230 rfl ?_
          refine zw_C zr_0_1231 (Or.inl rfl) zm_212 rfl rfl ⟨Nat.le_of_ble_eq_true rfl, Nat.le_of_ble_eq_true rfl, Nat.le_of_ble_eq_true rfl, rfl, by decide⟩ (by omega) (th_212 (d := d - 1) (by omega) hIm3    ) ?_
          rintro _ _ ⟨r324, rfl, hr324a, hr324b, rfl⟩
          show zW E (d) 0 1234 [(6, 0), (2, 0), (2, 69), (0, i2)] [(1, r324)] m3 Q
          refine zw_116 zr_0_1234 rfl ?_
          refine zw_42 zr_0_1235 ?_
          refine zw_15 (c := 6) (L' := [(6, 0), (2, 0), (2, 69), (0, (i2 + 6))]) zr_0_1238 rfl (by decide) (by omega) rfl ?_
          refine zw_42 zr_0_1241 ?_
          exact zw_less (L := [(6, 0), (2, 0), (2, 69), (0, (i2 + 6))]) ⟨Or.inr rfl, Or.inr rfl, Or.inr rfl, Or.inr rfl, trivial⟩ (ihlp18_4 ((i2 + 6)) m3 hIm3 hFm3   (by omega) (by omega) (by omega))
        refine zw_111d (t := 1238) zr_0_33 (by omega) rfl ?_
        refine zw_15 (c := 6) (L' := [(6, 0), (2, 0), (2, 69), (0, (i2 + 6))]) zr_0_1238 rfl (by decide) (by omega) rfl ?_
        refine zw_42 zr_0_1241 ?_
        exact zw_less (L := [(6, 0), (2, 0), (2, 69), (0, (i2 + 6))]) ⟨Or.inr rfl, Or.inr rfl, Or.inr rfl, Or.inr rfl, trivial⟩ (ihlp18_4 ((i2 + 6)) m3 hIm3 hFm3   (by omega) (by omega) (by omega))
  exact lp18_4 _ (0) m0 hI0 hF0   (by omega) (by omega) (Nat.lt_succ_self _)
