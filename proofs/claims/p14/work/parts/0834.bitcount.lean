/-! the machine's operations over Nat values -/
theorem zus_c : ∀ c : Fin 62, (((Int32.ofInt (c.val : Int)).toInt64.toUInt64 &&& Int64.toUInt64 63).toNat % 64) = c.val := by decide +kernel
theorem zushr64 {x : Int} {c : Nat} (hx : 0 ≤ x ∧ x < 9223372036854775808) (hc : c < 62) : (((Int64.ofInt x).toUInt64 >>> ((Int32.ofInt (c : Int)).toInt64.toUInt64 &&& Int64.toUInt64 63)).toInt64).toInt = ((x.toNat / 2 ^ c : Nat) : Int) := by
  have h := zus_c ⟨c, hc⟩
  dsimp only at h
  have e : (((Int64.ofInt x).toUInt64 >>> ((Int32.ofInt (c : Int)).toInt64.toUInt64 &&& Int64.toUInt64 63)).toInt64).toBitVec.toNat = x.toNat / 2 ^ c := by
    show ((Int64.ofInt x).toUInt64 >>> ((Int32.ofInt (c : Int)).toInt64.toUInt64 &&& Int64.toUInt64 63)).toNat = _
    rw [UInt64.toNat_shiftRight, h, Nat.shiftRight_eq_div_pow]
    show (Int64.ofInt x).toBitVec.toNat / 2 ^ c = _
    rw [zl_bv hx.1 hx.2]
  exact zl_nn e (Nat.lt_of_le_of_lt (Nat.div_le_self _ _) (by omega))
theorem zn_shr {E : zE} {d k pc q a1 a2 : Nat} {L S : List zV} {m : zM} {Q : zV → zM → Prop} {i : Instr} {x y : Int} (X c : Nat) (h : zRow xM k pc = some (35, i, q, a1, a2)) (hx : x = X) (hy : y = c) (hX : X < 9223372036854775808) (hc : c < 62) (n : ∀ r : Int, r = ((X / 2 ^ c : Nat) : Int) → zW E d k q L ((1, r) :: S) m Q) : zW E d k pc L ((0, y) :: (1, x) :: S) m Q := by
  subst hx hy
  have e := zushr64 (x := (X : Int)) (c := c) (by omega) hc
  rw [Int.toNat_natCast] at e
  exact zw_p h (by decide) (by decide) rfl (n _ e)
theorem zn_and {E : zE} {d k pc q a1 a2 : Nat} {L S : List zV} {m : zM} {Q : zV → zM → Prop} {i : Instr} {x y : Int} (X Y : Nat) (h : zRow xM k pc = some (30, i, q, a1, a2)) (hx : x = X) (hy : y = Y) (hX : X < 9223372036854775808) (hY : Y < 9223372036854775808) (n : ∀ r : Int, r = ((X &&& Y : Nat) : Int) → zW E d k q L ((1, r) :: S) m Q) : zW E d k pc L ((1, y) :: (1, x) :: S) m Q := by
  subst hx hy
  have e := zand64 (x := (X : Int)) (y := (Y : Int)) (by omega) (by omega)
  rw [Int.toNat_natCast, Int.toNat_natCast] at e
  exact zw_p h (by decide) (by decide) rfl (n _ e)
theorem zn_sub {E : zE} {d k pc q a1 a2 : Nat} {L S : List zV} {m : zM} {Q : zV → zM → Prop} {i : Instr} {x y : Int} (X Y : Nat) (h : zRow xM k pc = some (28, i, q, a1, a2)) (hx : x = X) (hy : y = Y) (hX : X < 9223372036854775808) (hY : Y ≤ X) (n : ∀ r : Int, r = ((X - Y : Nat) : Int) → zW E d k q L ((1, r) :: S) m Q) : zW E d k pc L ((1, y) :: (1, x) :: S) m Q := by
  subst hx hy
  refine zw_28 h ⟨by omega, by omega⟩ ?_
  rw [show (X : Int) - (Y : Int) = ((X - Y : Nat) : Int) by omega]
  exact n _ rfl
theorem zn_add {E : zE} {d k pc q a1 a2 : Nat} {L S : List zV} {m : zM} {Q : zV → zM → Prop} {i : Instr} {x y : Int} (X Y : Nat) (h : zRow xM k pc = some (27, i, q, a1, a2)) (hx : x = X) (hy : y = Y) (hX : X + Y < 9223372036854775808) (n : ∀ r : Int, r = ((X + Y : Nat) : Int) → zW E d k q L ((1, r) :: S) m Q) : zW E d k pc L ((1, y) :: (1, x) :: S) m Q := by
  subst hx hy
  refine zw_27 h ⟨by omega, by omega⟩ ?_
  rw [show (X : Int) + (Y : Int) = ((X + Y : Nat) : Int) by omega]
  exact n _ rfl
theorem zn_l2i {E : zE} {d k pc q a1 a2 : Nat} {L S : List zV} {m : zM} {Q : zV → zM → Prop} {i : Instr} {x : Int} (X : Nat) (h : zRow xM k pc = some (37, i, q, a1, a2)) (hx : x = X) (hX : X < 9223372036854775808) (n : ∀ r : Int32, r.toBitVec.toNat = X % 4294967296 → zW E d k q L ((0, r.toInt) :: S) m Q) : zW E d k pc L ((1, x) :: S) m Q := by
  subst hx
  refine zw_p h (by decide) (by decide) rfl (n (Int64.ofInt (X : Int)).toInt32 ?_)
  show ((Int64.ofInt (X : Int)).toBitVec.signExtend 32).toNat = _
  rw [BitVec.signExtend_eq_setWidth_of_le _ (by decide), BitVec.toNat_setWidth, zl_bv (by omega) (by omega), Int.toNat_natCast]
theorem zn_127 {E : zE} {d k pc q a1 a2 : Nat} {L S : List zV} {m : zM} {Q : zV → zM → Prop} {i : Instr} (w : Int32) (X : Nat) (h : zRow xM k pc = some (21, i, q, a1, a2)) (hw : w.toBitVec.toNat = X) (n : ∀ r : Int, r = ((X % 128 : Nat) : Int) → zW E d k q L ((0, r) :: S) m Q) : zW E d k pc L ((0, 127) :: (0, w.toInt) :: S) m Q := by
  have e : (Int32.ofInt w.toInt &&& Int32.ofInt 127).toInt = ((X % 128 : Nat) : Int) := by
    rw [Int32.ofInt_toInt]
    have e1 : (w &&& Int32.ofInt 127).toBitVec.toNat = X % 128 := by
      rw [Int32.toBitVec_and, BitVec.toNat_and, hw]
      exact Nat.and_two_pow_sub_one_eq_mod X 7
    show (w &&& Int32.ofInt 127).toBitVec.toInt = _
    rw [BitVec.toInt_eq_toNat_of_lt (by rw [e1]; omega), e1]
  exact zw_p h (by decide) (by decide) rfl (n _ e)
/-! bits of a long, counted by the machine -/
set_option maxHeartbeats 4000000 in
theorem th_136 {E : zE} {d : Nat} {m0 : zM} {a0 : Int} (hd : 1 ≤ d) (hI0 : zInv m0) (ha0 : 0 ≤ a0 ∧ a0 ≤ 1152921504606846975) : zC E d 136 [(1, a0)] m0 (fun v m' => ∃ r : Int, v = (0, r) ∧ 0 ≤ r ∧ r ≤ 127 ∧ m0 = m' ∧ (r = ((bs a0.toNat 64 : Nat) : Int))) := by
  obtain ⟨X, hX0⟩ : ∃ X : Nat, a0 = (X : Int) := ⟨a0.toNat, by omega⟩
  have hX : X < 1152921504606846976 := by omega
  have hbs : a0.toNat = X := by omega
  have h0 : (X / 2 ^ 1 &&& 6148914691236517205) ≤ X := Nat.le_trans Nat.and_le_left (Nat.div_le_self _ _)
  have hb1 : b1 8 X ≤ X := Nat.sub_le _ _
  have hb1l : b1 8 X / 2 ^ 2 ≤ b1 8 X := Nat.div_le_self _ _
  have hA : (b1 8 X &&& 3689348814741910323) ≤ 3689348814741910323 := Nat.and_le_right
  have hB : (b1 8 X / 2 ^ 2 &&& 3689348814741910323) ≤ 3689348814741910323 := Nat.and_le_right
  have hb2 : b2 8 X ≤ 7378697629483820646 := Nat.add_le_add hA hB
  have hb2l : b2 8 X / 2 ^ 4 ≤ 461168601842738790 := by have := Nat.div_le_div_right (c := 2 ^ 4) hb2; exact this
  have hb3 : b3 8 X ≤ 1085102592571150095 := Nat.and_le_right
  generalize hQ : (fun (v : zV) (m' : zM) => ∃ r : Int, v = (0, r) ∧ 0 ≤ r ∧ r ≤ 127 ∧ m0 = m' ∧ (r = ((bs a0.toNat 64 : Nat) : Int))) = Q
  show zW E d 136 0 [(1, a0), (9, 0)] [] m0 Q
  refine zw_5 zr_136_0 rfl ?_
  refine zw_5 zr_136_1 rfl ?_
  refine zw_push zr_136_2 ?_
  refine zn_shr X 1 zr_136_3 hX0 rfl (by omega) (by decide) ?_
  intro r1 e1
  refine zw_push zr_136_4 ?_
  refine zn_and (X / 2 ^ 1) 6148914691236517205 zr_136_7 e1 rfl (Nat.lt_of_le_of_lt (Nat.div_le_self _ _) (by omega)) (by decide) ?_
  intro r2 e2
  refine zn_sub X _ zr_136_8 hX0 e2 (by omega) h0 ?_
  intro r3 e3
  have e3 : r3 = ((b1 8 X : Nat) : Int) := e3
  refine zw_13 (L' := [(1, r3), (9, 0)]) zr_136_9 (Nat.le_of_ble_eq_true rfl) rfl ?_
  refine zw_5 zr_136_10 rfl ?_
  refine zw_push zr_136_11 ?_
  refine zn_and (b1 8 X) 3689348814741910323 zr_136_14 e3 rfl (by omega) (by decide) ?_
  intro r4 e4
  refine zw_5 zr_136_15 rfl ?_
  refine zw_push zr_136_16 ?_
  refine zn_shr (b1 8 X) 2 zr_136_17 e3 rfl (by omega) (by decide) ?_
  intro r5 e5
  refine zw_push zr_136_18 ?_
  refine zn_and (b1 8 X / 2 ^ 2) 3689348814741910323 zr_136_21 e5 rfl (Nat.lt_of_le_of_lt hb1l (by omega)) (by decide) ?_
  intro r6 e6
  refine zn_add _ _ zr_136_22 e4 e6 (Nat.lt_of_le_of_lt hb2 (by decide)) ?_
  intro r7 e7
  have e7 : r7 = ((b2 8 X : Nat) : Int) := e7
  refine zw_13 (L' := [(1, r7), (9, 0)]) zr_136_23 (Nat.le_of_ble_eq_true rfl) rfl ?_
  refine zw_5 zr_136_24 rfl ?_
  refine zw_5 zr_136_25 rfl ?_
  refine zw_push zr_136_26 ?_
  refine zn_shr (b2 8 X) 4 zr_136_27 e7 rfl (Nat.lt_of_le_of_lt hb2 (by decide)) (by decide) ?_
  intro r8 e8
  have hs : b2 8 X + b2 8 X / 2 ^ 4 < 9223372036854775808 := Nat.lt_of_le_of_lt (Nat.add_le_add hb2 hb2l) (by decide)
  refine zn_add (b2 8 X) (b2 8 X / 2 ^ 4) zr_136_28 e7 e8 hs ?_
  intro r9 e9
  refine zw_push zr_136_29 ?_
  refine zn_and _ 1085102592571150095 zr_136_32 e9 rfl hs (by decide) ?_
  intro r10 e10
  have e10 : r10 = ((b3 8 X : Nat) : Int) := e10
  clear e9 e8 e7 e6 e5 e4 e3 e2 e1 hs hb2l hb2 hA hB hb1l hb1 h0
  obtain ⟨y, hy⟩ : ∃ y, y = b3 8 X := ⟨_, rfl⟩
  rw [← hy] at e10 hb3
  have hp := pop_ok X y hy
  refine zw_13 (L' := [(1, r10), (9, 0)]) zr_136_33 (Nat.le_of_ble_eq_true rfl) rfl ?_
  refine zw_5 zr_136_34 rfl ?_
  refine zw_5 zr_136_35 rfl ?_
  refine zw_push zr_136_36 ?_
  refine zn_shr y 8 zr_136_38 e10 rfl (by omega) (by decide) ?_
  intro r11 e11
  have e11 : r11 = ((y / 256 : Nat) : Int) := e11
  refine zn_add y (y / 256) zr_136_39 e10 e11 (by omega) ?_
  intro r12 e12
  obtain ⟨z, hz⟩ : ∃ z, z = y + y / 256 := ⟨_, rfl⟩
  rw [← hz] at e12 hp
  have hzl : z < 2305843009213693952 := by omega
  clear hz e11 e10
  refine zw_13 (L' := [(1, r12), (9, 0)]) zr_136_40 (Nat.le_of_ble_eq_true rfl) rfl ?_
  refine zw_5 zr_136_41 rfl ?_
  refine zw_5 zr_136_42 rfl ?_
  refine zw_push zr_136_43 ?_
  refine zn_shr z 16 zr_136_45 e12 rfl (by omega) (by decide) ?_
  intro r13 e13
  have e13 : r13 = ((z / 65536 : Nat) : Int) := e13
  refine zn_add z (z / 65536) zr_136_46 e12 e13 (by omega) ?_
  intro r14 e14
  obtain ⟨u, hu⟩ : ∃ u, u = z + z / 65536 := ⟨_, rfl⟩
  rw [← hu] at e14 hp
  have hul : u < 4611686018427387904 := by omega
  clear hu e13 e12
  refine zw_13 (L' := [(1, r14), (9, 0)]) zr_136_47 (Nat.le_of_ble_eq_true rfl) rfl ?_
  refine zw_5 zr_136_48 rfl ?_
  refine zw_5 zr_136_49 rfl ?_
  refine zw_push zr_136_50 ?_
  refine zn_shr u 32 zr_136_52 e14 rfl (by omega) (by decide) ?_
  intro r15 e15
  have e15 : r15 = ((u / 4294967296 : Nat) : Int) := e15
  refine zn_add u (u / 4294967296) zr_136_53 e14 e15 (by omega) ?_
  intro r16 e16
  obtain ⟨v, hv⟩ : ∃ v, v = u + u / 4294967296 := ⟨_, rfl⟩
  rw [← hv] at e16 hp
  have hvl : v < 9223372036854775808 := by omega
  clear hv e15 e14
  refine zw_13 (L' := [(1, r16), (9, 0)]) zr_136_54 (Nat.le_of_ble_eq_true rfl) rfl ?_
  refine zw_5 zr_136_55 rfl ?_
  refine zn_l2i v zr_136_56 e16 hvl ?_
  intro w ew
  refine zw_push zr_136_57 ?_
  refine zn_127 w _ zr_136_59 ew ?_
  intro r17 e17
  refine zw_R zr_136_60 (by decide) zm_136 (v := (0, r17)) rfl ?_
  have hm : v % 4294967296 % 128 = v % 128 := Nat.mod_mod_of_dvd v (by decide)
  rw [hm, hp] at e17
  have hlt : bs X 64 < 128 := by rw [← hp]; exact Nat.mod_lt _ (by decide)
  rw [← hQ, hbs]
  generalize bs X 64 = t at e17 hlt ⊢
  exact ⟨_, rfl, by omega, by omega, rfl, e17⟩
