/-! the plain machine against the executor: operations -/
def zOK (K : xKt) (cc cs : Nat) (x : xRes) (r : zSt) : Prop := ∃ Wd', x = K r.1 (r.2.1.map zc) (r.2.2.1.map zc) Wd' cc cs [] ∧ zRel r.2.2.2 Wd' ∧ zRs r.2.1 ∧ zRs r.2.2.1
section ZOP
variable {K : xKt} {cc cs : Nat} {L S : List zV} {m : zM} {Wd : List Nat} {r : zSt} {a1 a2 pc q : Nat}
theorem zc0 (v : Int) : zc (0, v) = zU v * 8 := rfl
theorem zc1 (v : Int) : zc (1, v) = zUL v * 8 + 1 := rfl
theorem zc2 (v : Int) : zc (2, v) = v.toNat * 8 + 2 := rfl
theorem xI2_zc (y x : Int) (t : List Nat) (f : Nat → Nat → Nat) (k : List Nat → xRes) (re : List Nat → xEv → xRes) : xI2 (zc (0, y) :: zc (0, x) :: t) [] f k re = k (f (zU x) (zU y) * 8 :: t) := by
  unfold xI2
  dsimp only
  rw [zc0, zc0, zb0, zb0, zd0, zd0]
  simp only [Bool.and_self, cond_true, xF_eq]
theorem xL2_zc (y x : Int) (t : List Nat) (f : Nat → Nat → Nat) (k : List Nat → xRes) : xL2 (zc (1, y) :: zc (1, x) :: t) f k = k ((f (zUL x) (zUL y) * 8 + 1) :: t) := by
  unfold xL2
  dsimp only
  rw [zc1, zc1, zb1, zb1, zd1, zd1]
  simp only [Bool.and_self, cond_true, xF_eq]
theorem xLI_zc (y x : Int) (t : List Nat) (f : Nat → Nat → Nat) (k : List Nat → xRes) : xLI (zc (0, y) :: zc (1, x) :: t) f k = k ((f (zUL x) (zU y) * 8 + 1) :: t) := by
  unfold xLI
  dsimp only
  rw [zc1, zc0, zb1, zb0, zd1, zd0]
  simp only [Bool.and_self, cond_true, xF_eq]
theorem zi_i2 {g : Int32 → Int32 → Int32} (h : zo_i2 g q L S m = some r) : ∃ y x t, S = (0, y) :: (0, x) :: t ∧ r = (q, L, (0, (g (Int32.ofInt x) (Int32.ofInt y)).toInt) :: t, m) := by
  unfold zo_i2 at h
  split at h
  · exact ⟨_, _, _, rfl, (Option.some.inj h).symm⟩
  · cases h
theorem zi_i2z {g : Int32 → Int32 → Int32} (h : zo_i2z g q L S m = some r) : ∃ y x t, S = (0, y) :: (0, x) :: t ∧ y ≠ 0 ∧ r = (q, L, (0, (g (Int32.ofInt x) (Int32.ofInt y)).toInt) :: t, m) := by
  unfold zo_i2z at h
  split at h
  · split at h
    · cases h
    · next hy => exact ⟨_, _, _, rfl, hy, (Option.some.inj h).symm⟩
  · cases h
theorem zi_l2 {g : Int64 → Int64 → Int64} (h : zo_l2 g q L S m = some r) : ∃ y x t, S = (1, y) :: (1, x) :: t ∧ r = (q, L, (1, (g (Int64.ofInt x) (Int64.ofInt y)).toInt) :: t, m) := by
  unfold zo_l2 at h
  split at h
  · exact ⟨_, _, _, rfl, (Option.some.inj h).symm⟩
  · cases h
theorem zi_l2z {g : Int64 → Int64 → Int64} (h : zo_l2z g q L S m = some r) : ∃ y x t, S = (1, y) :: (1, x) :: t ∧ y ≠ 0 ∧ r = (q, L, (1, (g (Int64.ofInt x) (Int64.ofInt y)).toInt) :: t, m) := by
  unfold zo_l2z at h
  split at h
  · split at h
    · cases h
    · next hy => exact ⟨_, _, _, rfl, hy, (Option.some.inj h).symm⟩
  · cases h
theorem zi_li {g : Int64 → Int32 → Int64} (h : zo_li g q L S m = some r) : ∃ y x t, S = (0, y) :: (1, x) :: t ∧ r = (q, L, (1, (g (Int64.ofInt x) (Int32.ofInt y)).toInt) :: t, m) := by
  unfold zo_li at h
  split at h
  · exact ⟨_, _, _, rfl, (Option.some.inj h).symm⟩
  · cases h
theorem zk_i2 {g : Int32 → Int32 → Int32} {f : Nat → Nat → Nat} (hf : ∀ x y : Nat, x < 4294967296 → y < 4294967296 → f x y = xN32 (g (nI x) (nI y))) (hL : zRs L) (hS : zRs S) (hm : zRel m Wd) (h : zo_i2 g q L S m = some r) (re : List Nat → xEv → xRes) : zOK K cc cs (xI2 (S.map zc) [] f (fun S' => xF q (fun q => K q (L.map zc) S' Wd cc cs [])) re) r := by
  obtain ⟨y, x, t, rfl, rfl⟩ := zi_i2 h
  refine ⟨Wd, ?_, hm, hL, zrs_cons (zToInt _) (zrs_tl (zrs_tl hS))⟩
  rw [List.map_cons, List.map_cons, xI2_zc, xF_eq, hf _ _ (zU_lt x) (zU_lt y), zU_ofInt, zU_ofInt, ← zU_N]
  rfl
theorem zk_l2 {g : Int64 → Int64 → Int64} {f : Nat → Nat → Nat} (hf : ∀ x y : Nat, x < 18446744073709551616 → y < 18446744073709551616 → f x y = xN64 (g (lN x) (lN y))) (hL : zRs L) (hS : zRs S) (hm : zRel m Wd) (h : zo_l2 g q L S m = some r) : zOK K cc cs (xL2 (S.map zc) f (fun S' => xF q (fun q => K q (L.map zc) S' Wd cc cs []))) r := by
  obtain ⟨y, x, t, rfl, rfl⟩ := zi_l2 h
  refine ⟨Wd, ?_, hm, hL, zrs_cons (zToIntL _) (zrs_tl (zrs_tl hS))⟩
  rw [List.map_cons, List.map_cons, xL2_zc, xF_eq, hf _ _ (zUL_lt x) (zUL_lt y), zUL_ofInt, zUL_ofInt, ← zUL_N]
  rfl
theorem zk_li {g : Int64 → Int32 → Int64} {f : Nat → Nat → Nat} (hf : ∀ x y : Nat, f x y = xN64 (g (lN x) (nI y))) (hL : zRs L) (hS : zRs S) (hm : zRel m Wd) (h : zo_li g q L S m = some r) : zOK K cc cs (xLI (S.map zc) f (fun S' => xF q (fun q => K q (L.map zc) S' Wd cc cs []))) r := by
  obtain ⟨y, x, t, rfl, rfl⟩ := zi_li h
  refine ⟨Wd, ?_, hm, hL, zrs_cons (zToIntL _) (zrs_tl (zrs_tl hS))⟩
  rw [List.map_cons, List.map_cons, xLI_zc, xF_eq, hf, zUL_ofInt, zU_ofInt, ← zUL_N]
  rfl
theorem zadd32 (x y : Nat) (hx : x < 4294967296) (hy : y < 4294967296) : (x + y) % 4294967296 = xN32 (nI x + nI y) := by
  rw [nI_add, ← xnI_mod, zN_n (by omega)]
theorem zsub32 (x y : Nat) (hx : x < 4294967296) (hy : y < 4294967296) : (x + 4294967296 - y % 4294967296) % 4294967296 = xN32 (nI x - nI y) := by
  rw [← xsub_eq, zN_n (by omega)]
theorem zmul32 (x y : Nat) (hx : x < 4294967296) (hy : y < 4294967296) : (x * y) % 4294967296 = xN32 (nI x * nI y) := by
  rw [show nI x * nI y = nI (x * y) from (Int32.ofNat_mul x y).symm, ← xnI_mod, zN_n (Nat.mod_lt _ (by decide))]
theorem zadd64 (x y : Nat) (hx : x < 18446744073709551616) (hy : y < 18446744073709551616) : (x + y) % 18446744073709551616 = xN64 (lN x + lN y) := by
  rw [show lN x + lN y = lN (x + y) from (Int64.ofNat_add x y).symm, ← xlN_mod, zNL_n (Nat.mod_lt _ (by decide))]
theorem zmul64 (x y : Nat) (hx : x < 18446744073709551616) (hy : y < 18446744073709551616) : (x * y) % 18446744073709551616 = xN64 (lN x * lN y) := by
  rw [show lN x * lN y = lN (x * y) from (Int64.ofNat_mul x y).symm, ← xlN_mod, zNL_n (Nat.mod_lt _ (by decide))]
theorem zq_iadd (hL : zRs L) (hS : zRs S) (hm : zRel m Wd) (h : zo_i2 (fun x y => x + y) (pc + 1) L S m = some r) : zOK K cc cs (xo_iadd K a1 a2 pc (L.map zc) (S.map zc) Wd cc cs []) r := zk_i2 zadd32 hL hS hm h _
theorem zq_isub (hL : zRs L) (hS : zRs S) (hm : zRel m Wd) (h : zo_i2 (fun x y => x - y) (pc + 1) L S m = some r) : zOK K cc cs (xo_isub K a1 a2 pc (L.map zc) (S.map zc) Wd cc cs []) r := zk_i2 zsub32 hL hS hm h _
theorem zq_imul (hL : zRs L) (hS : zRs S) (hm : zRel m Wd) (h : zo_i2 (fun x y => x * y) (pc + 1) L S m = some r) : zOK K cc cs (xo_imul K a1 a2 pc (L.map zc) (S.map zc) Wd cc cs []) r := zk_i2 zmul32 hL hS hm h _
theorem zq_iand (hL : zRs L) (hS : zRs S) (hm : zRel m Wd) (h : zo_i2 (fun x y => x &&& y) (pc + 1) L S m = some r) : zOK K cc cs (xo_iand K a1 a2 pc (L.map zc) (S.map zc) Wd cc cs []) r := zk_i2 (fun _ _ _ _ => rfl) hL hS hm h _
theorem zq_ior (hL : zRs L) (hS : zRs S) (hm : zRel m Wd) (h : zo_i2 (fun x y => x ||| y) (pc + 1) L S m = some r) : zOK K cc cs (xo_ior K a1 a2 pc (L.map zc) (S.map zc) Wd cc cs []) r := zk_i2 (fun _ _ _ _ => rfl) hL hS hm h _
theorem zq_ixor (hL : zRs L) (hS : zRs S) (hm : zRel m Wd) (h : zo_i2 (fun x y => x ^^^ y) (pc + 1) L S m = some r) : zOK K cc cs (xo_ixor K a1 a2 pc (L.map zc) (S.map zc) Wd cc cs []) r := zk_i2 (fun _ _ _ _ => rfl) hL hS hm h _
theorem zq_ishl (hL : zRs L) (hS : zRs S) (hm : zRel m Wd) (h : zo_i2 (fun x y => x <<< (y &&& 31)) (pc + 1) L S m = some r) : zOK K cc cs (xo_ishl K a1 a2 pc (L.map zc) (S.map zc) Wd cc cs []) r := zk_i2 (fun _ _ _ _ => rfl) hL hS hm h _
theorem zq_ishr (hL : zRs L) (hS : zRs S) (hm : zRel m Wd) (h : zo_i2 (fun x y => x >>> (y &&& 31)) (pc + 1) L S m = some r) : zOK K cc cs (xo_ishr K a1 a2 pc (L.map zc) (S.map zc) Wd cc cs []) r := zk_i2 (fun _ _ _ _ => rfl) hL hS hm h _
theorem zq_iushr (hL : zRs L) (hS : zRs S) (hm : zRel m Wd) (h : zo_i2 (fun x y => (x.toUInt32 >>> (y.toUInt32 &&& Int32.toUInt32 31)).toInt32) (pc + 1) L S m = some r) : zOK K cc cs (xo_iushr K a1 a2 pc (L.map zc) (S.map zc) Wd cc cs []) r := zk_i2 (fun _ _ _ _ => rfl) hL hS hm h _
theorem zq_ladd (hL : zRs L) (hS : zRs S) (hm : zRel m Wd) (h : zo_l2 (fun x y => x + y) (pc + 1) L S m = some r) : zOK K cc cs (xo_ladd K a1 a2 pc (L.map zc) (S.map zc) Wd cc cs []) r := by
  obtain ⟨y, x, t, rfl, -⟩ := zi_l2 h
  have e : xo_ladd K a1 a2 pc (L.map zc) (((1, y) :: (1, x) :: t : List zV).map zc) Wd cc cs [] = xL2 (((1, y) :: (1, x) :: t : List zV).map zc) (fun x y => (x + y) % 18446744073709551616) (fun S' => xF (pc + 1) (fun q => K q (L.map zc) S' Wd cc cs [])) := by
    rw [List.map_cons, List.map_cons]
    unfold xo_ladd
    dsimp only
    have hne : (Nat.beq (zc (1, y)) 9 && Nat.beq (zc (1, x)) 21) = false := by
      have : Nat.beq (zc (1, x)) 21 = false := zbne (by rw [zc1]; omega)
      rw [this, Bool.and_false]
    rw [hne]
    rfl
  rw [e]
  exact zk_l2 zadd64 hL hS hm h
theorem zq_lsub (hL : zRs L) (hS : zRs S) (hm : zRel m Wd) (h : zo_l2 (fun x y => x - y) (pc + 1) L S m = some r) : zOK K cc cs (xo_lsub K a1 a2 pc (L.map zc) (S.map zc) Wd cc cs []) r := zk_l2 (fun _ _ _ _ => rfl) hL hS hm h
theorem zq_lmul (hL : zRs L) (hS : zRs S) (hm : zRel m Wd) (h : zo_l2 (fun x y => x * y) (pc + 1) L S m = some r) : zOK K cc cs (xo_lmul K a1 a2 pc (L.map zc) (S.map zc) Wd cc cs []) r := zk_l2 zmul64 hL hS hm h
theorem zq_land (hL : zRs L) (hS : zRs S) (hm : zRel m Wd) (h : zo_l2 (fun x y => x &&& y) (pc + 1) L S m = some r) : zOK K cc cs (xo_land K a1 a2 pc (L.map zc) (S.map zc) Wd cc cs []) r := zk_l2 (fun _ _ _ _ => rfl) hL hS hm h
theorem zq_lor (hL : zRs L) (hS : zRs S) (hm : zRel m Wd) (h : zo_l2 (fun x y => x ||| y) (pc + 1) L S m = some r) : zOK K cc cs (xo_lor K a1 a2 pc (L.map zc) (S.map zc) Wd cc cs []) r := zk_l2 (fun _ _ _ _ => rfl) hL hS hm h
theorem zq_lxor (hL : zRs L) (hS : zRs S) (hm : zRel m Wd) (h : zo_l2 (fun x y => x ^^^ y) (pc + 1) L S m = some r) : zOK K cc cs (xo_lxor K a1 a2 pc (L.map zc) (S.map zc) Wd cc cs []) r := zk_l2 (fun _ _ _ _ => rfl) hL hS hm h
theorem zq_lshl (hL : zRs L) (hS : zRs S) (hm : zRel m Wd) (h : zo_li (fun x y => x <<< (y.toInt64 &&& 63)) (pc + 1) L S m = some r) : zOK K cc cs (xo_lshl K a1 a2 pc (L.map zc) (S.map zc) Wd cc cs []) r := zk_li (fun _ _ => rfl) hL hS hm h
theorem zq_lshr (hL : zRs L) (hS : zRs S) (hm : zRel m Wd) (h : zo_li (fun x y => x >>> (y.toInt64 &&& 63)) (pc + 1) L S m = some r) : zOK K cc cs (xo_lshr K a1 a2 pc (L.map zc) (S.map zc) Wd cc cs []) r := zk_li (fun _ _ => rfl) hL hS hm h
theorem zq_lushr (hL : zRs L) (hS : zRs S) (hm : zRel m Wd) (h : zo_li (fun x y => (x.toUInt64 >>> (y.toInt64.toUInt64 &&& Int64.toUInt64 63)).toInt64) (pc + 1) L S m = some r) : zOK K cc cs (xo_lushr K a1 a2 pc (L.map zc) (S.map zc) Wd cc cs []) r := zk_li (fun _ _ => rfl) hL hS hm h
theorem zU_ne {y : Int} (hr : zIn y) (hy : y ≠ 0) : Nat.beq (zU y % 4294967296) 0 = false := by
  refine zbne ?_
  unfold zIn at hr
  unfold zU
  omega
theorem zk_i2z {g : Int32 → Int32 → Int32} (hL : zRs L) (hS : zRs S) (hm : zRel m Wd) (h : zo_i2z g (pc + 1) L S m = some r) (re : List Nat → xEv → xRes) : zOK K cc cs (xI2 (S.map zc) [] (fun x y => xN32 (g (nI x) (nI y))) (fun S' => bif Nat.beq (xGet (S.map zc) 0 / 8 % 4294967296) 0 then none else xF (pc + 1) (fun q => K q (L.map zc) S' Wd cc cs [])) re) r := by
  obtain ⟨y, x, t, rfl, hy, rfl⟩ := zi_i2z h
  refine ⟨Wd, ?_, hm, hL, zrs_cons (zToInt _) (zrs_tl (zrs_tl hS))⟩
  rw [List.map_cons, List.map_cons, xI2_zc]
  show (bif Nat.beq (zU y * 8 / 8 % 4294967296) 0 then none else _) = _
  rw [zd0, zU_ne (zrs_hd hS) hy, cond_false, xF_eq, zU_ofInt, zU_ofInt, ← zU_N]
  rfl
theorem zq_idiv (hL : zRs L) (hS : zRs S) (hm : zRel m Wd) (h : zo_i2z (fun x y => x / y) (pc + 1) L S m = some r) : zOK K cc cs (xo_idiv K a1 a2 pc (L.map zc) (S.map zc) Wd cc cs []) r := zk_i2z (g := fun x y => x / y) hL hS hm h _
theorem zq_irem (hL : zRs L) (hS : zRs S) (hm : zRel m Wd) (h : zo_i2z (fun x y => x - x / y * y) (pc + 1) L S m = some r) : zOK K cc cs (xo_irem K a1 a2 pc (L.map zc) (S.map zc) Wd cc cs []) r := zk_i2z (g := fun x y => x - x / y * y) hL hS hm h _
theorem zlN_ne {y : Int} (hr : zInL y) (hy : y ≠ 0) : decide (lN (zUL y) = 0) = false := by
  apply decide_eq_false
  intro h
  apply hy
  have h2 := congrArg Int64.toInt h
  rw [xs64_eq, zxs64 hr] at h2
  exact h2
theorem zk_l2z {g : Int64 → Int64 → Int64} (hL : zRs L) (hS : zRs S) (hm : zRel m Wd) (h : zo_l2z g (pc + 1) L S m = some r) : zOK K cc cs (xL2 (S.map zc) (fun x y => xN64 (g (lN x) (lN y))) (fun S' => bif decide (lN (xGet (S.map zc) 0 / 8) = 0) then none else xF (pc + 1) (fun q => K q (L.map zc) S' Wd cc cs []))) r := by
  obtain ⟨y, x, t, rfl, hy, rfl⟩ := zi_l2z h
  refine ⟨Wd, ?_, hm, hL, zrs_cons (zToIntL _) (zrs_tl (zrs_tl hS))⟩
  rw [List.map_cons, List.map_cons, xL2_zc]
  show (bif decide (lN ((zUL y * 8 + 1) / 8) = 0) then none else _) = _
  rw [zd1, zlN_ne (zrs_hd hS) hy, cond_false, xF_eq, zUL_ofInt, zUL_ofInt, ← zUL_N]
  rfl
theorem zq_ldiv (hL : zRs L) (hS : zRs S) (hm : zRel m Wd) (h : zo_l2z (fun x y => x / y) (pc + 1) L S m = some r) : zOK K cc cs (xo_ldiv K pc (L.map zc) (S.map zc) Wd cc cs []) r := zk_l2z (g := fun x y => x / y) hL hS hm h
theorem zq_lrem (hL : zRs L) (hS : zRs S) (hm : zRel m Wd) (h : zo_l2z (fun x y => x - x / y * y) (pc + 1) L S m = some r) : zOK K cc cs (xo_lrem K pc (L.map zc) (S.map zc) Wd cc cs []) r := by
  unfold xo_lrem
  exact zk_l2z (g := fun x y => x - x / y * y) hL hS hm h
theorem zk_mi2 {g : Int32 → Int32 → Int32} {f : Nat → Nat → Nat} (hf : ∀ x y : Nat, f x y = xN32 (g (nI x) (nI y))) {mc ms d : Nat} (h1 : cc ≤ mc) (h2 : cs ≤ ms) (hL : zRs L) (hS : zRs S) (hm : zRel m Wd) (h : zo_mi2 g d (pc + 3) L S m = some r) : zOK K cc cs (xo_mi2 f mc ms d K pc (L.map zc) (S.map zc) Wd cc cs []) r := by
  unfold zo_mi2 at h
  split at h
  · split at h
    · next y x t hc =>
      cases h
      refine ⟨Wd, ?_, hm, hL, zrs_cons (zToInt _) (zrs_tl (zrs_tl hS))⟩
      rw [List.map_cons, List.map_cons]
      unfold xo_mi2
      dsimp only
      rw [zc0, zc0, zb0, zb0, zcats, zble hc.1, zblt hc.2, zble h1, zble h2, zd0, zd0, hf, zU_ofInt, zU_ofInt, ← zU_N]
      simp only [Bool.and_self, cond_true, xF_eq]
      rfl
    · cases h
  · cases h
theorem zk_ml2 {g : Int64 → Int64 → Int64} {f : Nat → Nat → Nat} (hf : ∀ x y : Nat, f x y = xN64 (g (lN x) (lN y))) {mc ms d : Nat} (h1 : cc ≤ mc) (h2 : cs ≤ ms) (hL : zRs L) (hS : zRs S) (hm : zRel m Wd) (h : zo_ml2 g d (pc + 3) L S m = some r) : zOK K cc cs (xo_ml2 f mc ms d K pc (L.map zc) (S.map zc) Wd cc cs []) r := by
  unfold zo_ml2 at h
  split at h
  · split at h
    · next y x t hc =>
      cases h
      refine ⟨Wd, ?_, hm, hL, zrs_cons (zToIntL _) (zrs_tl (zrs_tl hS))⟩
      rw [List.map_cons, List.map_cons]
      unfold xo_ml2
      dsimp only
      rw [zc1, zc1, zb1, zb1, zcats, zble hc.1, zblt hc.2, zble h1, zble h2, zd1, zd1, hf, zUL_ofInt, zUL_ofInt, ← zUL_N]
      simp only [Bool.and_self, cond_true, xF_eq]
      rfl
    · cases h
  · cases h
theorem zk_mi1 {g : Int32 → Int32} {f : Nat → Nat} (hf : ∀ x : Nat, f x = xN32 (g (nI x))) {mc ms d : Nat} (h1 : cc ≤ mc) (h2 : cs ≤ ms) (hL : zRs L) (hS : zRs S) (hm : zRel m Wd) (h : zo_mi1 g d (pc + 3) L S m = some r) : zOK K cc cs (xo_mi1 f mc ms d K pc (L.map zc) (S.map zc) Wd cc cs []) r := by
  unfold zo_mi1 at h
  split at h
  · split at h
    · next x t hc =>
      cases h
      refine ⟨Wd, ?_, hm, hL, zrs_cons (zToInt _) (zrs_tl hS)⟩
      rw [List.map_cons]
      unfold xo_mi1
      dsimp only
      rw [zc0, zb0, zcats, zble hc.1, zblt hc.2, zble h1, zble h2, zd0, hf, zU_ofInt, ← zU_N]
      simp only [Bool.and_self, cond_true, xF_eq]
      rfl
    · cases h
  · cases h
theorem zk_ml1 {g : Int64 → Int64} {f : Nat → Nat} (hf : ∀ x : Nat, f x = xN64 (g (lN x))) {mc ms d : Nat} (h1 : cc ≤ mc) (h2 : cs ≤ ms) (hL : zRs L) (hS : zRs S) (hm : zRel m Wd) (h : zo_ml1 g d (pc + 3) L S m = some r) : zOK K cc cs (xo_ml1 f mc ms d K pc (L.map zc) (S.map zc) Wd cc cs []) r := by
  unfold zo_ml1 at h
  split at h
  · split at h
    · next x t hc =>
      cases h
      refine ⟨Wd, ?_, hm, hL, zrs_cons (zToIntL _) (zrs_tl hS)⟩
      rw [List.map_cons]
      unfold xo_ml1
      dsimp only
      rw [zc1, zb1, zcats, zble hc.1, zblt hc.2, zble h1, zble h2, zd1, hf, zUL_ofInt, ← zUL_N]
      simp only [Bool.and_self, cond_true, xF_eq]
      rfl
    · cases h
  · cases h
end ZOP
