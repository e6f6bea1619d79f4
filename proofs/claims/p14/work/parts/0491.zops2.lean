/-! the plain machine against the executor: locals, stack, branches, cells -/
section ZOQ
variable {K : xKt} {cc cs : Nat} {L S : List zV} {m : zM} {Wd : List Nat} {r : zSt} {a1 a2 pc q : Nat}
theorem zPv_c (h : a1 % 8 = 0 ∧ a1 < 34359738368 ∨ a1 % 8 = 1 ∧ a1 < 147573952589676412928) : zc (zPv a1) = a1 ∧ zR (zPv a1) := by
  unfold zPv
  rcases h with ⟨h, h2⟩ | ⟨h, h2⟩
  · rw [if_pos h]
    refine ⟨?_, ?_⟩
    · rw [zc0]
      unfold zU xs32 xb32
      omega
    · show zIn (xs32 (a1 / 8))
      unfold zIn xs32 xb32
      omega
  · rw [if_neg (by omega)]
    refine ⟨?_, ?_⟩
    · rw [zc1]
      unfold zUL xs64 xb64
      omega
    · show zInL (xs64 (a1 / 8))
      unfold zInL xs64 xb64
      omega
theorem zq_push1 (hL : zRs L) (hS : zRs S) (hm : zRel m Wd) (h : zo_push (pc + 1) a1 L S m = some r) : zOK K cc cs (xo_push1 K a1 a2 pc (L.map zc) (S.map zc) Wd cc cs []) r := by
  unfold zo_push at h
  split at h
  · next hc =>
    cases h
    obtain ⟨e1, e2⟩ := zPv_c hc
    refine ⟨Wd, ?_, hm, hL, zrs_cons e2 hS⟩
    unfold xo_push1
    rw [xF_eq, List.map_cons, e1]
  · cases h
theorem zq_push2 (hL : zRs L) (hS : zRs S) (hm : zRel m Wd) (h : zo_push (pc + 2) a1 L S m = some r) : zOK K cc cs (xo_push2 K a1 a2 pc (L.map zc) (S.map zc) Wd cc cs []) r := by
  unfold zo_push at h
  split at h
  · next hc =>
    cases h
    obtain ⟨e1, e2⟩ := zPv_c hc
    refine ⟨Wd, ?_, hm, hL, zrs_cons e2 hS⟩
    unfold xo_push2
    rw [xF_eq, List.map_cons, e1]
  · cases h
theorem zq_push3 (hL : zRs L) (hS : zRs S) (hm : zRel m Wd) (h : zo_push (pc + 3) a1 L S m = some r) : zOK K cc cs (xo_push3 K a1 a2 pc (L.map zc) (S.map zc) Wd cc cs []) r := by
  unfold zo_push at h
  split at h
  · next hc =>
    cases h
    obtain ⟨e1, e2⟩ := zPv_c hc
    refine ⟨Wd, ?_, hm, hL, zrs_cons e2 hS⟩
    unfold xo_push3
    rw [xF_eq, List.map_cons, e1]
  · cases h
theorem zisI {v : zV} (h : v.1 = 0) : xIsI (zc v) = true := by
  obtain ⟨t, x⟩ := v
  dsimp only at h
  subst h
  rw [zc0]
  unfold xIsI
  rw [zb0]
  rfl
theorem zisL {v : zV} (h : v.1 = 1) : xIsL (zc v) = true := by rw [ztag, decide_eq_true h]
theorem zisR {v : zV} (h : v.1 = 2 ∨ v.1 = 6) : xIsR (zc v) = true := by
  obtain ⟨t, x⟩ := v
  dsimp only at h
  rcases h with h | h
  · subst h
    rw [zc2]
    unfold xIsR
    rw [zb2]
    rfl
  · subst h; rfl
theorem zlen (L : List zV) : xLen (L.map zc) = L.length := by rw [xLen_eq, List.length_map]
theorem zq_iload1 (hL : zRs L) (hS : zRs S) (hm : zRel m Wd) (h : zo_ild (pc + 1) a1 L S m = some r) : zOK K cc cs (xo_iload1 K a1 a2 pc (L.map zc) (S.map zc) Wd cc cs []) r := by
  unfold zo_ild at h
  split at h
  · next hc =>
    cases h
    obtain ⟨e1, e2, e3⟩ := zget (L := L) (i := a1) (by rw [hc]; decide)
    refine ⟨Wd, ?_, hm, hL, zrs_cons (hL _ e3) hS⟩
    unfold xo_iload1
    rw [xF_eq, e2, zisI hc, zlen, zblt e1]
    simp only [Bool.and_self, cond_true, xF_eq]
    rfl
  · cases h
theorem zq_iload2 (hL : zRs L) (hS : zRs S) (hm : zRel m Wd) (h : zo_ild (pc + 2) a1 L S m = some r) : zOK K cc cs (xo_iload2 K a1 a2 pc (L.map zc) (S.map zc) Wd cc cs []) r := by
  unfold zo_ild at h
  split at h
  · next hc =>
    cases h
    obtain ⟨e1, e2, e3⟩ := zget (L := L) (i := a1) (by rw [hc]; decide)
    refine ⟨Wd, ?_, hm, hL, zrs_cons (hL _ e3) hS⟩
    unfold xo_iload2
    rw [xF_eq, e2, zisI hc, zlen, zblt e1]
    simp only [Bool.and_self, cond_true, xF_eq]
    rfl
  · cases h
theorem zq_lload1 (hL : zRs L) (hS : zRs S) (hm : zRel m Wd) (h : zo_lld (pc + 1) a1 L S m = some r) : zOK K cc cs (xo_lload1 K a1 a2 pc (L.map zc) (S.map zc) Wd cc cs []) r := by
  unfold zo_lld at h
  split at h
  · next hc =>
    cases h
    obtain ⟨e1, e2, e3⟩ := zget (L := L) (i := a1) (by rw [hc]; decide)
    refine ⟨Wd, ?_, hm, hL, zrs_cons (hL _ e3) hS⟩
    unfold xo_lload1
    rw [xF_eq, e2, zisL hc]
    simp only [cond_true, xF_eq]
    rfl
  · cases h
theorem zq_lload2 (hL : zRs L) (hS : zRs S) (hm : zRel m Wd) (h : zo_lld (pc + 2) a1 L S m = some r) : zOK K cc cs (xo_lload2 K a1 a2 pc (L.map zc) (S.map zc) Wd cc cs []) r := by
  unfold zo_lld at h
  split at h
  · next hc =>
    cases h
    obtain ⟨e1, e2, e3⟩ := zget (L := L) (i := a1) (by rw [hc]; decide)
    refine ⟨Wd, ?_, hm, hL, zrs_cons (hL _ e3) hS⟩
    unfold xo_lload2
    rw [xF_eq, e2, zisL hc]
    simp only [cond_true, xF_eq]
    rfl
  · cases h
theorem zq_aload1 (hL : zRs L) (hS : zRs S) (hm : zRel m Wd) (h : zo_ald (pc + 1) a1 L S m = some r) : zOK K cc cs (xo_aload1 K a1 a2 pc (L.map zc) (S.map zc) Wd cc cs []) r := by
  unfold zo_ald at h
  split at h
  · next hc =>
    cases h
    obtain ⟨e1, e2, e3⟩ := zget (L := L) (i := a1) (by rcases hc with hc | hc <;> (rw [hc]; decide))
    refine ⟨Wd, ?_, hm, hL, zrs_cons (hL _ e3) hS⟩
    unfold xo_aload1
    rw [xF_eq, e2, zisR hc]
    simp only [cond_true, xF_eq]
    rfl
  · cases h
theorem zq_aload2 (hL : zRs L) (hS : zRs S) (hm : zRel m Wd) (h : zo_ald (pc + 2) a1 L S m = some r) : zOK K cc cs (xo_aload2 K a1 a2 pc (L.map zc) (S.map zc) Wd cc cs []) r := by
  unfold zo_ald at h
  split at h
  · next hc =>
    cases h
    obtain ⟨e1, e2, e3⟩ := zget (L := L) (i := a1) (by rcases hc with hc | hc <;> (rw [hc]; decide))
    refine ⟨Wd, ?_, hm, hL, zrs_cons (hL _ e3) hS⟩
    unfold xo_aload2
    rw [xF_eq, e2, zisR hc]
    simp only [cond_true, xF_eq]
    rfl
  · cases h
theorem zq_istore1 (hL : zRs L) (hS : zRs S) (hm : zRel m Wd) (h : zo_ist (pc + 1) a1 L S m = some r) : zOK K cc cs (xo_istore1 K a1 a2 pc (L.map zc) (S.map zc) Wd cc cs []) r := by
  unfold zo_ist at h
  split at h
  · split at h
    · next v t hc =>
      cases h
      refine ⟨Wd, ?_, hm, zput_rs hL (zrs_hd hS), zrs_tl hS⟩
      rw [List.map_cons]
      unfold xo_istore1
      dsimp only
      rw [zisI hc.1, zlen, zblt hc.2, Bool.and_self, cond_true, zput (α := Unit), xF_eq]
    · cases h
  · cases h
theorem zq_istore2 (hL : zRs L) (hS : zRs S) (hm : zRel m Wd) (h : zo_ist (pc + 2) a1 L S m = some r) : zOK K cc cs (xo_istore2 K a1 a2 pc (L.map zc) (S.map zc) Wd cc cs []) r := by
  unfold zo_ist at h
  split at h
  · split at h
    · next v t hc =>
      cases h
      refine ⟨Wd, ?_, hm, zput_rs hL (zrs_hd hS), zrs_tl hS⟩
      rw [List.map_cons]
      unfold xo_istore2
      dsimp only
      rw [zisI hc.1, zlen, zblt hc.2, Bool.and_self, cond_true, zput (α := Unit), xF_eq]
    · cases h
  · cases h
theorem zq_astore1 (hL : zRs L) (hS : zRs S) (hm : zRel m Wd) (h : zo_ast (pc + 1) a1 L S m = some r) : zOK K cc cs (xo_astore1 K a1 a2 pc (L.map zc) (S.map zc) Wd cc cs []) r := by
  unfold zo_ast at h
  split at h
  · split at h
    · next v t hc =>
      cases h
      refine ⟨Wd, ?_, hm, zput_rs hL (zrs_hd hS), zrs_tl hS⟩
      rw [List.map_cons]
      unfold xo_astore1
      dsimp only
      rw [zisR hc.1, zlen, zblt hc.2, Bool.and_self, cond_true, zput (α := Unit), xF_eq]
    · cases h
  · cases h
theorem zq_astore2 (hL : zRs L) (hS : zRs S) (hm : zRel m Wd) (h : zo_ast (pc + 2) a1 L S m = some r) : zOK K cc cs (xo_astore2 K a1 a2 pc (L.map zc) (S.map zc) Wd cc cs []) r := by
  unfold zo_ast at h
  split at h
  · split at h
    · next v t hc =>
      cases h
      refine ⟨Wd, ?_, hm, zput_rs hL (zrs_hd hS), zrs_tl hS⟩
      rw [List.map_cons]
      unfold xo_astore2
      dsimp only
      rw [zisR hc.1, zlen, zblt hc.2, Bool.and_self, cond_true, zput (α := Unit), xF_eq]
    · cases h
  · cases h
theorem zq_lstore1 (hL : zRs L) (hS : zRs S) (hm : zRel m Wd) (h : zo_lst (pc + 1) a1 L S m = some r) : zOK K cc cs (xo_lstore1 K a1 a2 pc (L.map zc) (S.map zc) Wd cc cs []) r := by
  unfold zo_lst at h
  split at h
  · split at h
    · next v t hc =>
      cases h
      refine ⟨Wd, ?_, hm, zset_rs (zput_rs hL (zrs_hd hS)) trivial, zrs_tl hS⟩
      rw [List.map_cons]
      unfold xo_lstore1
      dsimp only
      rw [zisL hc.1, zlen, zblt hc.2, Bool.and_self, cond_true, zput (α := Unit), xSet_eq, xF_eq, List.map_set]
      rfl
    · cases h
  · cases h
theorem zq_lstore2 (hL : zRs L) (hS : zRs S) (hm : zRel m Wd) (h : zo_lst (pc + 2) a1 L S m = some r) : zOK K cc cs (xo_lstore2 K a1 a2 pc (L.map zc) (S.map zc) Wd cc cs []) r := by
  unfold zo_lst at h
  split at h
  · split at h
    · next v t hc =>
      cases h
      refine ⟨Wd, ?_, hm, zset_rs (zput_rs hL (zrs_hd hS)) trivial, zrs_tl hS⟩
      rw [List.map_cons]
      unfold xo_lstore2
      dsimp only
      rw [zisL hc.1, zlen, zblt hc.2, Bool.and_self, cond_true, zput (α := Unit), xSet_eq, xF_eq, List.map_set]
      rfl
    · cases h
  · cases h
theorem zq_iinc (hL : zRs L) (hS : zRs S) (hm : zRel m Wd) (h : zo_iinc (pc + 3) a1 a2 L S m = some r) : zOK K cc cs (xo_iinc K a1 a2 pc (L.map zc) (S.map zc) Wd cc cs []) r := by
  unfold zo_iinc at h
  split at h
  · next hc =>
    cases h
    obtain ⟨e1, e2, e3⟩ := zget (L := L) (i := a1) (by rw [hc]; decide)
    refine ⟨Wd, ?_, hm, zput_rs hL (zToInt _), hS⟩
    have e4 : zG L a1 = (0, (zG L a1).2) := by rw [← hc]
    have e5 : zc (zG L a1) = zU (zG L a1).2 * 8 := by rw [e4]; rfl
    have e6 : (zU (zG L a1).2 + a2) % 4294967296 * 8 = zc (0, (Int32.ofInt (zG L a1).2 + nI a2).toInt) := by
      rw [zc0, zU_N, ← zU_ofInt, nI_add, ← xnI_mod, zN_n (by omega)]
    unfold xo_iinc
    rw [xF_eq, e2, e5, zb0, zlen, zblt e1, Bool.and_self, cond_true, zd0, e6, xF_eq, zput (α := Unit), xF_eq]
  · cases h
theorem zq_i2l (hL : zRs L) (hS : zRs S) (hm : zRel m Wd) (h : zo_i2l (pc + 1) L S m = some r) : zOK K cc cs (xo_i2l K a1 a2 pc (L.map zc) (S.map zc) Wd cc cs []) r := by
  unfold zo_i2l at h
  split at h
  · next x t =>
    cases h
    have hx : zIn x := zrs_hd hS
    have hx2 : zInL x := by unfold zIn at hx; unfold zInL; omega
    refine ⟨Wd, ?_, hm, hL, zrs_cons (q := (1, x)) hx2 (zrs_tl hS)⟩
    have e : xN64 (nI (zU x)).toInt64 = zUL x := by
      rw [← zUL_N, Int32.toInt_toInt64, xs32_eq, zxs32 hx]
    rw [List.map_cons]
    unfold xo_i2l
    dsimp only
    rw [zc0, zb0, cond_true, xF_eq, xF_eq, zd0, e]
    rfl
  · cases h
theorem zq_l2i (hL : zRs L) (hS : zRs S) (hm : zRel m Wd) (h : zo_l2i (pc + 1) L S m = some r) : zOK K cc cs (xo_l2i K a1 a2 pc (L.map zc) (S.map zc) Wd cc cs []) r := by
  unfold zo_l2i at h
  split at h
  · next x t =>
    cases h
    refine ⟨Wd, ?_, hm, hL, zrs_cons (zToInt _) (zrs_tl hS)⟩
    rw [List.map_cons]
    unfold xo_l2i
    dsimp only
    rw [zc1, zb1, cond_true, xF_eq, xF_eq, zd1, zUL_ofInt, ← zU_N]
    rfl
  · cases h
theorem zq_ineg (hL : zRs L) (hS : zRs S) (hm : zRel m Wd) (h : zo_ineg (pc + 1) L S m = some r) : zOK K cc cs (xo_ineg K a1 a2 pc (L.map zc) (S.map zc) Wd cc cs []) r := by
  unfold zo_ineg at h
  split at h
  · next x t =>
    cases h
    refine ⟨Wd, ?_, hm, hL, zrs_cons (zToInt _) (zrs_tl hS)⟩
    rw [List.map_cons]
    unfold xo_ineg
    dsimp only
    rw [zc0, zb0, cond_true, xF_eq, xF_eq, zd0, zU_ofInt, ← zU_N]
    rfl
  · cases h
theorem zq_lneg (hL : zRs L) (hS : zRs S) (hm : zRel m Wd) (h : zo_lneg (pc + 1) L S m = some r) : zOK K cc cs (xo_lneg K pc (L.map zc) (S.map zc) Wd cc cs []) r := by
  unfold zo_lneg at h
  split at h
  · next x t =>
    cases h
    refine ⟨Wd, ?_, hm, hL, zrs_cons (zToIntL _) (zrs_tl hS)⟩
    rw [List.map_cons]
    unfold xo_lneg
    dsimp only
    rw [zc1, zb1, cond_true, xF_eq, xF_eq, zd1, zUL_ofInt, ← zUL_N]
    rfl
  · cases h
theorem zsg {a b : Nat} {x y : Int} (h : (a : Int) - b = x - y) : xSg a b = if x < y then 0 else if x = y then 1 else 2 := by
  unfold xSg
  by_cases h1 : x < y
  · rw [if_pos h1, zblt (by omega)]; rfl
  · rw [if_neg h1]
    have e1 : Nat.blt a b = false := by
      cases hq : Nat.blt a b with
      | false => rfl
      | true => exact absurd (xblt hq) (by omega)
    rw [e1, cond_false]
    by_cases h2 : x = y
    · rw [if_pos h2]
      have e2 : Nat.blt b a = false := by
        cases hq : Nat.blt b a with
        | false => rfl
        | true => exact absurd (xblt hq) (by omega)
      rw [e2]; rfl
    · rw [if_neg h2, zblt (by omega)]; rfl
theorem zb32 {x : Int} (h : zIn x) : (xb32 (zU x) : Int) = x + 2147483648 := by
  unfold zIn at h
  unfold xb32 zU
  omega
theorem zb64 {x : Int} (h : zInL x) : (xb64 (zUL x) : Int) = x + 9223372036854775808 := by
  unfold zInL at h
  unfold xb64 zUL
  omega
theorem zho {a : Nat} {x y : Int} (ha : a < 6) : xHo a (if x < y then 0 else if x = y then 1 else 2) = zHo a x y := by
  by_cases h1 : x < y
  · rw [if_pos h1]
    match a, ha with
    | 0, _ => exact (decide_eq_true h1).symm
    | 1, _ => exact (decide_eq_false (show ¬ x = y by omega)).symm
    | 2, _ => exact (decide_eq_false (show ¬ y < x by omega)).symm
    | 3, _ => exact (decide_eq_false (show ¬ y ≤ x by omega)).symm
    | 4, _ => show true = !(decide (x = y)); rw [decide_eq_false (show ¬ x = y by omega)]; rfl
    | 5, _ => exact (decide_eq_true (show x ≤ y by omega)).symm
  · rw [if_neg h1]
    by_cases h2 : x = y
    · rw [if_pos h2]
      match a, ha with
      | 0, _ => exact (decide_eq_false h1).symm
      | 1, _ => exact (decide_eq_true h2).symm
      | 2, _ => exact (decide_eq_false (show ¬ y < x by omega)).symm
      | 3, _ => exact (decide_eq_true (show y ≤ x by omega)).symm
      | 4, _ => show false = !(decide (x = y)); rw [decide_eq_true h2]; rfl
      | 5, _ => exact (decide_eq_true (show x ≤ y by omega)).symm
    · rw [if_neg h2]
      match a, ha with
      | 0, _ => exact (decide_eq_false h1).symm
      | 1, _ => exact (decide_eq_false h2).symm
      | 2, _ => exact (decide_eq_true (show y < x by omega)).symm
      | 3, _ => exact (decide_eq_true (show y ≤ x by omega)).symm
      | 4, _ => show true = !(decide (x = y)); rw [decide_eq_false h2]; rfl
      | 5, _ => exact (decide_eq_false (show ¬ x ≤ y by omega)).symm
theorem zq_lcmp (hL : zRs L) (hS : zRs S) (hm : zRel m Wd) (h : zo_lcmp (pc + 1) L S m = some r) : zOK K cc cs (xo_lcmp K a1 a2 pc (L.map zc) (S.map zc) Wd cc cs []) r := by
  unfold zo_lcmp at h
  split at h
  · next y x t =>
    cases h
    have hy : zInL y := zrs_hd hS
    have hx : zInL x := zrs_hd (zrs_tl hS)
    have hz : zIn (zSgn x y) := by unfold zSgn zIn; split <;> (try split) <;> omega
    refine ⟨Wd, ?_, hm, hL, zrs_cons (q := (0, zSgn x y)) hz (zrs_tl (zrs_tl hS))⟩
    have e1 := zb64 hx
    have e2 := zb64 hy
    rw [List.map_cons, List.map_cons]
    unfold xo_lcmp
    dsimp only
    rw [zc1, zc1, zb1, zb1, Bool.and_self, cond_true, zd1, zd1, zsg (x := x) (y := y) (by omega), xF_eq, xF_eq]
    unfold zSgn
    by_cases h1 : x < y
    · rw [if_pos h1, if_pos h1]; rfl
    · rw [if_neg h1, if_neg h1]
      by_cases h2 : x = y
      · rw [if_pos h2, if_pos h2]; rfl
      · rw [if_neg h2, if_neg h2]; rfl
  · cases h
theorem zq_ifC (hL : zRs L) (hS : zRs S) (hm : zRel m Wd) (h : zo_ifC (pc + 3) a1 a2 L S m = some r) : zOK K cc cs (xo_ifC K a1 a2 pc (L.map zc) (S.map zc) Wd cc cs []) r := by
  unfold zo_ifC at h
  split at h
  · next x t =>
    split at h
    · next ha =>
      cases h
      have hx : zIn x := zrs_hd hS
      have e1 := zb32 hx
      refine ⟨Wd, ?_, hm, hL, zrs_tl hS⟩
      rw [List.map_cons]
      unfold xo_ifC
      dsimp only
      rw [zc0, zb0, cond_true, zd0, zsg (b := 2147483648) (x := x) (y := 0) (by omega), zho ha]
      cases zHo a2 x 0 with
      | true => rfl
      | false => rw [cond_false, cond_false, xF_eq]
    · cases h
  · cases h
theorem zq_icmp (hL : zRs L) (hS : zRs S) (hm : zRel m Wd) (h : zo_icmp (pc + 3) a1 a2 L S m = some r) : zOK K cc cs (xo_icmp K a1 a2 pc (L.map zc) (S.map zc) Wd cc cs []) r := by
  unfold zo_icmp at h
  split at h
  · next y x t =>
    split at h
    · next ha =>
      cases h
      have hy : zIn y := zrs_hd hS
      have hx : zIn x := zrs_hd (zrs_tl hS)
      have e1 := zb32 hx
      have e2 := zb32 hy
      refine ⟨Wd, ?_, hm, hL, zrs_tl (zrs_tl hS)⟩
      rw [List.map_cons, List.map_cons]
      unfold xo_icmp
      dsimp only
      rw [zc0, zc0, zb0, zb0, Bool.and_self, cond_true, zd0, zd0, zsg (x := x) (y := y) (by omega), zho ha]
      cases zHo a2 x y with
      | true => rfl
      | false => rw [cond_false, cond_false, xF_eq]
    · cases h
  · cases h
theorem zq_goto (hL : zRs L) (hS : zRs S) (hm : zRel m Wd) (h : some (a1, L, S, m) = some r) : zOK K cc cs (xo_goto K a1 a2 pc (L.map zc) (S.map zc) Wd cc cs []) r := by
  cases h
  exact ⟨Wd, rfl, hm, hL, hS⟩
theorem zq_dup (hL : zRs L) (hS : zRs S) (hm : zRel m Wd) (h : zo_dup (pc + 1) L S m = some r) : zOK K cc cs (xo_dup K a1 a2 pc (L.map zc) (S.map zc) Wd cc cs []) r := by
  unfold zo_dup at h
  split at h
  · next v t =>
    split at h
    · next hc =>
      cases h
      refine ⟨Wd, ?_, hm, hL, zrs_cons (zrs_hd hS) hS⟩
      rw [List.map_cons]
      unfold xo_dup
      dsimp only
      rw [zcat, zbeq hc, cond_true, xF_eq]
      rfl
    · cases h
  · cases h
theorem zq_dup_x1 (hL : zRs L) (hS : zRs S) (hm : zRel m Wd) (h : zo_dup_x1 (pc + 1) L S m = some r) : zOK K cc cs (xo_dup_x1 K a1 a2 pc (L.map zc) (S.map zc) Wd cc cs []) r := by
  unfold zo_dup_x1 at h
  split at h
  · next v w t =>
    split at h
    · next hc =>
      cases h
      refine ⟨Wd, ?_, hm, hL, zrs_cons (zrs_hd hS) (zrs_cons (zrs_hd (zrs_tl hS)) (zrs_cons (zrs_hd hS) (zrs_tl (zrs_tl hS))))⟩
      rw [List.map_cons, List.map_cons]
      unfold xo_dup_x1
      dsimp only
      rw [zcat, zcat, zbeq hc.1, zbeq hc.2, Bool.and_self, cond_true, xF_eq]
      rfl
    · cases h
  · cases h
theorem zq_dup2 (hL : zRs L) (hS : zRs S) (hm : zRel m Wd) (h : zo_dup2 (pc + 1) L S m = some r) : zOK K cc cs (xo_dup2 K a1 a2 pc (L.map zc) (S.map zc) Wd cc cs []) r := by
  unfold zo_dup2 at h
  split at h
  · next v w t =>
    split at h
    · next hc =>
      cases h
      refine ⟨Wd, ?_, hm, hL, zrs_cons (zrs_hd hS) (zrs_cons (zrs_hd (zrs_tl hS)) hS)⟩
      rw [List.map_cons, List.map_cons]
      unfold xo_dup2
      dsimp only
      rw [zcat, zcat, hc.1, hc.2]
      show (bif Nat.beq 1 2 then _ else bif Nat.beq 1 1 then _ else _) = _
      rw [show Nat.beq 1 2 = false from rfl, show Nat.beq 1 1 = true from rfl, cond_false, cond_true, xF_eq]
      rfl
    · cases h
  · cases h
theorem zq_pop (hL : zRs L) (hS : zRs S) (hm : zRel m Wd) (h : zo_pop (pc + 1) L S m = some r) : zOK K cc cs (xo_pop K pc (L.map zc) (S.map zc) Wd cc cs []) r := by
  unfold zo_pop at h
  split at h
  · next v t =>
    split at h
    · next hc =>
      cases h
      refine ⟨Wd, ?_, hm, hL, zrs_tl hS⟩
      rw [List.map_cons]
      unfold xo_pop
      dsimp only
      rw [zcat, zbeq hc, cond_true, xF_eq]
    · cases h
  · cases h
theorem zq_pop2 (hL : zRs L) (hS : zRs S) (hm : zRel m Wd) (h : zo_pop2 (pc + 1) L S m = some r) : zOK K cc cs (xo_pop2 K pc (L.map zc) (S.map zc) Wd cc cs []) r := by
  unfold zo_pop2 at h
  split at h
  · next v t =>
    split at h
    · next hc =>
      cases h
      refine ⟨Wd, ?_, hm, hL, zrs_tl hS⟩
      rw [List.map_cons]
      unfold xo_pop2
      dsimp only
      rw [zcat, zbeq hc, cond_true, xF_eq]
    · cases h
  · cases h
end ZOQ
