/-! a run of the plain machine is a run of the executor -/
section ZRN
variable {K : xKt} {cc cs : Nat} {L S : List zV} {m : zM} {Wd : List Nat} {r : zSt}
set_option maxHeartbeats 4000000 in
theorem zq_all {M : Nat → Option xMt} {Lz : Nat} {zs : Nat → Int32} {sc : Nat → Nat} (hsc : ∀ i, sc i = xN32 (zs i) * 8) {ih : Nat → (Nat → Option xRow) → Nat → Nat → Option FieldType → Nat → xKt} {k mc ms d o a1 a2 pc : Nat} {rt : Option FieldType} {i : Instr} (h1 : cc ≤ mc) (h2 : cs ≤ ms) (hL : zRs L) (hS : zRs S) (hm : zRel m Wd) (h : zPure Lz zs d k o i pc (pc + zln o) a1 a2 L S m = some r) :
    zOK K cc cs (bif Nat.blt o 56 then xDs o K a1 a2 pc (L.map zc) (S.map zc) Wd cc cs [] else xDg M Lz sc ih k mc ms rt d K o i a1 a2 pc (L.map zc) (S.map zc) Wd cc cs []) r := by
  unfold zPure at h
  split at h
  · exact zq_push1 (a1 := a1) (a2 := a2) (pc := pc) hL hS hm h
  · exact zq_push2 (a1 := a1) (a2 := a2) (pc := pc) hL hS hm h
  · exact zq_push3 (a1 := a1) (a2 := a2) (pc := pc) hL hS hm h
  · exact zq_iload1 (a1 := a1) (a2 := a2) (pc := pc) hL hS hm h
  · exact zq_iload2 (a1 := a1) (a2 := a2) (pc := pc) hL hS hm h
  · exact zq_lload1 (a1 := a1) (a2 := a2) (pc := pc) hL hS hm h
  · exact zq_lload2 (a1 := a1) (a2 := a2) (pc := pc) hL hS hm h
  · exact zq_aload1 (a1 := a1) (a2 := a2) (pc := pc) hL hS hm h
  · exact zq_aload2 (a1 := a1) (a2 := a2) (pc := pc) hL hS hm h
  · exact zq_istore1 (a1 := a1) (a2 := a2) (pc := pc) hL hS hm h
  · exact zq_istore2 (a1 := a1) (a2 := a2) (pc := pc) hL hS hm h
  · exact zq_astore1 (a1 := a1) (a2 := a2) (pc := pc) hL hS hm h
  · exact zq_astore2 (a1 := a1) (a2 := a2) (pc := pc) hL hS hm h
  · exact zq_lstore1 (a1 := a1) (a2 := a2) (pc := pc) hL hS hm h
  · exact zq_lstore2 (a1 := a1) (a2 := a2) (pc := pc) hL hS hm h
  · exact zq_iinc (a1 := a1) (a2 := a2) (pc := pc) hL hS hm h
  · exact zq_iadd (a1 := a1) (a2 := a2) (pc := pc) hL hS hm h
  · exact zq_isub (a1 := a1) (a2 := a2) (pc := pc) hL hS hm h
  · exact zq_imul (a1 := a1) (a2 := a2) (pc := pc) hL hS hm h
  · exact zq_idiv (a1 := a1) (a2 := a2) (pc := pc) hL hS hm h
  · exact zq_irem (a1 := a1) (a2 := a2) (pc := pc) hL hS hm h
  · exact zq_iand (a1 := a1) (a2 := a2) (pc := pc) hL hS hm h
  · exact zq_ior (a1 := a1) (a2 := a2) (pc := pc) hL hS hm h
  · exact zq_ixor (a1 := a1) (a2 := a2) (pc := pc) hL hS hm h
  · exact zq_ishl (a1 := a1) (a2 := a2) (pc := pc) hL hS hm h
  · exact zq_ishr (a1 := a1) (a2 := a2) (pc := pc) hL hS hm h
  · exact zq_iushr (a1 := a1) (a2 := a2) (pc := pc) hL hS hm h
  · exact zq_ladd (a1 := a1) (a2 := a2) (pc := pc) hL hS hm h
  · exact zq_lsub (a1 := a1) (a2 := a2) (pc := pc) hL hS hm h
  · exact zq_lmul (a1 := a1) (a2 := a2) (pc := pc) hL hS hm h
  · exact zq_land (a1 := a1) (a2 := a2) (pc := pc) hL hS hm h
  · exact zq_lor (a1 := a1) (a2 := a2) (pc := pc) hL hS hm h
  · exact zq_lxor (a1 := a1) (a2 := a2) (pc := pc) hL hS hm h
  · exact zq_lshl (a1 := a1) (a2 := a2) (pc := pc) hL hS hm h
  · exact zq_lshr (a1 := a1) (a2 := a2) (pc := pc) hL hS hm h
  · exact zq_lushr (a1 := a1) (a2 := a2) (pc := pc) hL hS hm h
  · exact zq_i2l (a1 := a1) (a2 := a2) (pc := pc) hL hS hm h
  · exact zq_l2i (a1 := a1) (a2 := a2) (pc := pc) hL hS hm h
  · exact zq_ineg (a1 := a1) (a2 := a2) (pc := pc) hL hS hm h
  · exact zq_lcmp (a1 := a1) (a2 := a2) (pc := pc) hL hS hm h
  · exact zq_ifC (a1 := a1) (a2 := a2) (pc := pc) hL hS hm h
  · exact zq_icmp (a1 := a1) (a2 := a2) (pc := pc) hL hS hm h
  · exact zq_goto (a1 := a1) (a2 := a2) (pc := pc) hL hS hm h
  · exact zq_dup (a1 := a1) (a2 := a2) (pc := pc) hL hS hm h
  · exact zq_dup_x1 (a1 := a1) (a2 := a2) (pc := pc) hL hS hm h
  · exact zq_dup2 (a1 := a1) (a2 := a2) (pc := pc) hL hS hm h
  · exact zq_getfield (a1 := a1) (a2 := a2) (pc := pc) hL hS hm h
  · exact zq_putfield (a1 := a1) (a2 := a2) (pc := pc) hL hS hm h
  · exact zq_iaload (a1 := a1) (a2 := a2) (pc := pc) hL hS hm h
  · exact zq_iastore (a1 := a1) (a2 := a2) (pc := pc) hL hS hm h
  · exact zq_laload (a1 := a1) (a2 := a2) (pc := pc) hL hS hm h
  · exact zq_lastore (a1 := a1) (a2 := a2) (pc := pc) hL hS hm h
  · exact zq_baload (a1 := a1) (a2 := a2) (pc := pc) hL hS hm h
  · exact zq_bastore (a1 := a1) (a2 := a2) (pc := pc) hL hS hm h
  · exact zq_aaload (a1 := a1) (a2 := a2) (pc := pc) hL hS hm h
  · exact zq_sload (mc := mc) (ms := ms) (a1 := a1) (a2 := a2) (pc := pc) hsc hL hS hm h
  · exact zq_alen (mc := mc) (ms := ms) (a1 := a1) (a2 := a2) (pc := pc) hL hS hm h
  · exact zq_tsw hL hS hm h
  · exact zq_lsw hL hS hm h
  · exact zq_acopy hL hS hm h
  · exact zq_pop hL hS hm h
  · exact zq_pop2 hL hS hm h
  · exact zq_lneg hL hS hm h
  · exact zq_ldiv hL hS hm h
  · exact zq_lrem hL hS hm h
  · exact zk_mi2 (f := fun x y => xN32 (if nI x < nI y then nI y else nI x)) (g := fun x y => if x < y then y else x) (mc := mc) (ms := ms) (d := d) (pc := pc) (fun _ _ => rfl) h1 h2 hL hS hm h
  · exact zk_mi2 (f := fun x y => xN32 (if nI y < nI x then nI y else nI x)) (g := fun x y => if y < x then y else x) (mc := mc) (ms := ms) (d := d) (pc := pc) (fun _ _ => rfl) h1 h2 hL hS hm h
  · exact zk_mi1 (f := fun x => xN32 (if 0 ≤ nI x then nI x else 0 - nI x)) (g := fun x => if 0 ≤ x then x else 0 - x) (mc := mc) (ms := ms) (d := d) (pc := pc) (fun _ => rfl) h1 h2 hL hS hm h
  · exact zk_ml2 (f := fun x y => xN64 (if lN y < lN x then lN x else lN y)) (g := fun x y => if y < x then x else y) (mc := mc) (ms := ms) (d := d) (pc := pc) (fun _ _ => rfl) h1 h2 hL hS hm h
  · exact zk_ml2 (f := fun x y => xN64 (if lN y < lN x then lN y else lN x)) (g := fun x y => if y < x then y else x) (mc := mc) (ms := ms) (d := d) (pc := pc) (fun _ _ => rfl) h1 h2 hL hS hm h
  · exact zk_ml1 (f := fun x => xN64 (if 0 < lN x then lN x else -(lN x))) (g := fun x => if 0 < x then x else -x) (mc := mc) (ms := ms) (d := d) (pc := pc) (fun _ => rfl) h1 h2 hL hS hm h
  · cases h
theorem zRet_ok {mc ms o pc : Nat} {rt : Option FieldType} {v : zV} (h1 : cc ≤ mc) (h2 : cs ≤ ms) (hS : zRs S) (h : zRet rt o S = some v) (M : Nat → Option xMt) (Lz : Nat) (sc : Nat → Nat) (ih : Nat → (Nat → Option xRow) → Nat → Nat → Option FieldType → Nat → xKt) (k d a1 a2 : Nat) (i : Instr) (L' : List Nat) :
    (bif Nat.blt o 56 then xDs o K a1 a2 pc L' (S.map zc) Wd cc cs [] else xDg M Lz sc ih k mc ms rt d K o i a1 a2 pc L' (S.map zc) Wd cc cs []) = some [(pc, zc v, Wd, [], cc, cs)] ∧ zR v ∧ (v.1 = 0 ∨ v.1 = 1 ∨ v.1 = 9) := by
  unfold zRet at h
  split at h
  · next x =>
    cases h
    refine ⟨?_, zrs_hd hS, Or.inl rfl⟩
    show xo_iret mc ms (some .int) pc [zc (0, x)] Wd cc cs [] = _
    unfold xo_iret
    dsimp only
    rw [zisI (v := (0, x)) rfl, zble h1, zble h2]
    rfl
  · next x =>
    split at h
    · next hx =>
      cases h
      refine ⟨?_, zrs_hd hS, Or.inl rfl⟩
      show xo_iret mc ms (some .boolean) pc [zc (0, x)] Wd cc cs [] = _
      have hv : (Nat.beq (zc (0, x)) 0 || Nat.beq (zc (0, x)) 8) = true := by
        rcases hx with rfl | rfl <;> decide +kernel
      unfold xo_iret
      dsimp only
      rw [zisI (v := (0, x)) rfl, zble h1, zble h2, hv]
      rfl
    · cases h
  · next x =>
    cases h
    refine ⟨?_, zrs_hd hS, Or.inr (Or.inl rfl)⟩
    show xo_lret mc ms (some .long) pc [zc (1, x)] Wd cc cs [] = _
    unfold xo_lret
    dsimp only
    rw [zc1, zb1, zble h1, zble h2]
    rfl
  · cases h
    refine ⟨?_, trivial, Or.inr (Or.inr rfl)⟩
    show xo_vret mc ms none pc [] Wd cc cs [] = _
    unfold xo_vret
    dsimp only
    rw [zble h1, zble h2]
    rfl
  · cases h
set_option maxHeartbeats 4000000 in
theorem zSim {M : Nat → Option xMt} {Lz : Nat} {zs : Nat → Int32} {sc : Nat → Nat} (hsc : ∀ i, sc i = xN32 (zs i) * 8) : ∀ (f d k pc : Nat) (L S : List zV) (m : zM) (v : zV) (m' : zM), zRun M Lz zs f d k pc L S m = some (v, m') → ∀ (own : String) (y : MethodName) (bb : ByteArray) (maxL : Nat) (rt : Option FieldType) (na mc ms : Nat) (code : Nat → Option xRow), M k = some (own, y, bb, maxL, rt, na, mc, ms, code) → ∀ (Wd : List Nat) (cc cs : Nat), zRel m Wd → zRs L → zRs S → cc ≤ mc → cs ≤ ms →
    ∃ (pr : Nat) (Wd' : List Nat), xRun M Lz sc f k code mc ms rt d pc (L.map zc) (S.map zc) Wd cc cs [] = some [(pr, zc v, Wd', [], cc, cs)] ∧ zRel m' Wd' ∧ zR v ∧ (v.1 = 0 ∨ v.1 = 1 ∨ v.1 = 9) := by
  intro f
  induction f with
  | zero => intro d k pc L S m v m' h; cases h
  | succ f IH =>
    intro d k pc L S m v m' h own y bb maxL rt na mc ms code hM Wd cc cs hm hL hS h1 h2
    unfold zRun at h
    have hrw : zRow M k pc = match code pc with
      | none => none
      | some (o, i, _, a1, a2, _) => some (o, i, pc + zln o, a1, a2) := by unfold zRow; rw [hM]; rfl
    cases hrow : code pc with
    | none => rw [hrw, hrow] at h; cases h
    | some row =>
      obtain ⟨o, i, len, a1, a2, a3⟩ := row
      rw [hrw, hrow] at h
      dsimp only at h
      have hx : xRun M Lz sc (f + 1) k code mc ms rt d pc (L.map zc) (S.map zc) Wd cc cs [] = bif Nat.blt o 56 then xDs o (xRun M Lz sc f k code mc ms rt d) a1 a2 pc (L.map zc) (S.map zc) Wd cc cs [] else xDg M Lz sc (xRun M Lz sc f) k mc ms rt d (xRun M Lz sc f k code mc ms rt d) o i a1 a2 pc (L.map zc) (S.map zc) Wd cc cs [] := by
        show (match code pc with
          | none => none
          | some (o, i, _, a1, a2, _) => bif Nat.blt o 56 then xDs o (xRun M Lz sc f k code mc ms rt d) a1 a2 pc (L.map zc) (S.map zc) Wd cc cs [] else xDg M Lz sc (xRun M Lz sc f) k mc ms rt d (xRun M Lz sc f k code mc ms rt d) o i a1 a2 pc (L.map zc) (S.map zc) Wd cc cs []) = _
        rw [hrow]
      rw [hx]
      by_cases hcall : o = 105 ∨ o = 107
      · rw [if_pos hcall] at h
        have hln : zln o = 3 := by rcases hcall with rfl | rfl <;> rfl
        rw [hln] at h
        cases hM1 : M a1 with
        | none =>
          have e : zMt M a1 = none := by unfold zMt; rw [hM1]
          rw [e] at h
          cases h
        | some mt =>
          obtain ⟨own1, y1, bb1, maxL1, rt1, na1, mc1, ms1, code1⟩ := mt
          have e : zMt M a1 = some (maxL1, rt1, na1, mc1, ms1) := by unfold zMt; rw [hM1]
          rw [e] at h
          match mc1, ms1, h, hM1 with
          | 0, 0, h, hM1 =>
            have h : (if na1 ≤ S.length ∧ zCats (S.drop na1) ≤ 8 ∧ 0 < d ∧ zCats (S.take na1).reverse ≤ maxL1 ∧ zRc o a2 (zG (S.take na1).reverse 0) = true ∧ a1 ≠ 0 then
              (match zRun M Lz zs f (d - 1) a1 0 (zEnt (S.take na1).reverse maxL1) [] m with
                | none => none
                | some (v, m') => zRun M Lz zs f d k (pc + 3) L (if v.1 = 9 then S.drop na1 else v :: S.drop na1) m') else none) = some (v, m') := h
            by_cases hc : na1 ≤ S.length ∧ zCats (S.drop na1) ≤ 8 ∧ 0 < d ∧ zCats (S.take na1).reverse ≤ maxL1 ∧ zRc o a2 (zG (S.take na1).reverse 0) = true ∧ a1 ≠ 0
            · rw [if_pos hc] at h
              obtain ⟨c1, c2, c3, c4, c5, c6⟩ := hc
              cases hr : zRun M Lz zs f (d - 1) a1 0 (zEnt (S.take na1).reverse maxL1) [] m with
              | none => rw [hr] at h; cases h
              | some vm =>
                obtain ⟨v1, m1⟩ := vm
                rw [hr] at h
                dsimp only at h
                have hSt : zRs (S.take na1).reverse := fun q hq => hS q (List.mem_of_mem_take (List.mem_reverse.mp hq))
                have hSd : zRs (S.drop na1) := fun q hq => hS q (List.mem_of_mem_drop hq)
                obtain ⟨pr, Wd1, g1, g2, g3, g4⟩ := IH (d - 1) a1 0 _ [] m v1 m1 hr own1 y1 bb1 maxL1 rt1 na1 0 0 code1 hM1 Wd 0 0 hm (zent_rs hSt _) (fun q hq => by cases hq) (Nat.le_refl _) (Nat.le_refl _)
                obtain ⟨pr2, Wd2, k1, k2, k3, k4⟩ := IH d k (pc + 3) L _ m1 v m' h own y bb maxL rt na mc ms code hM Wd1 cc cs g2 hL (by
                  split
                  · exact hSd
                  · exact zrs_cons g3 hSd) h1 h2
                refine ⟨pr2, Wd2, ?_, k2, k3, k4⟩
                have hSm : S.map zc = (S.take na1).map zc ++ (S.drop na1).map zc := by rw [← List.map_append, List.take_append_drop]
                have hlen : ((S.take na1).map zc).length = na1 := by rw [List.length_map, List.length_take]; omega
                have hrev : ((S.take na1).map zc).reverse = (S.take na1).reverse.map zc := List.map_reverse.symm
                have hW : Nat.beq (xLen Wd1) (xLen Wd) = true := zbeq (by rw [xLen_eq, xLen_eq, g2.1, hm.1])
                have hst : (bif Nat.beq (zc v1) 11 then (S.drop na1).map zc else zc v1 :: (S.drop na1).map zc) = (if v1.1 = 9 then S.drop na1 else v1 :: S.drop na1).map zc := by
                  obtain ⟨t1, x1⟩ := v1
                  dsimp only at g4 ⊢
                  rcases g4 with rfl | rfl | rfl
                  · rw [zbne (by rw [zc0]; omega), if_neg (by decide)]; rfl
                  · rw [zbne (by rw [zc1]; omega), if_neg (by decide)]; rfl
                  · rfl
                have key : ∀ rc : Nat → Bool, rc (xGet ((S.take na1).reverse.map zc) 0) = true → xCall M (xRun M Lz sc f) mc ms d (xRun M Lz sc f k code mc ms rt d) a1 rc pc (L.map zc) (S.map zc) Wd cc cs [] = some [(pr2, zc v, Wd2, [], cc, cs)] := by
                  intro rc hrc
                  unfold xCall
                  rw [hM1]
                  dsimp only
                  have hT := fun kk : List Nat → List Nat → xRes => xTk_app ((S.take na1).map zc) ((S.drop na1).map zc) [] kk none
                  rw [hlen] at hT
                  rw [hSm, hT, List.append_nil, hrev, zcats, zcats, zble c2, zble (show cc + 0 ≤ mc by omega), zble (show cs + 0 ≤ ms by omega), zblt c3, zble c4, hrc]
                  simp only [Bool.and_self, cond_true]
                  rw [xEnt_eq, zent]
                  have g1' : xRun M Lz sc f a1 code1 0 0 rt1 (d - 1) 0 ((zEnt (S.take na1).reverse maxL1).map zc) [] Wd 0 0 [] = some [(pr, zc v1, Wd1, [], 0, 0)] := g1
                  rw [g1']
                  dsimp only
                  show (bif Nat.beq (xLen Wd1) (xLen Wd) || _ then _ else none) = _
                  rw [hW, Bool.true_or, cond_true, xF_eq, xF_eq, xF_eq, hst]
                  exact k1
                rcases hcall with rfl | rfl
                · refine key (fun o => Nat.beq (o % 8) 2 && Nat.beq (xGet Wd (o / 8) % 18446744073709551616) (8 * a2 + 2)) ?_
                  have c5' : (Nat.beq (zG (S.take na1).reverse 0).1 2 && Nat.beq (zHd (zG (S.take na1).reverse 0).2.toNat) (8 * a2 + 2)) = true := c5
                  obtain ⟨q1, q2⟩ := xand c5'
                  have q1 := xbeq q1
                  have q2 := xbeq q2
                  have hq0 := zget (L := (S.take na1).reverse) (i := 0) (by rw [q1]; decide)
                  rw [hq0.2.1]
                  generalize zG (S.take na1).reverse 0 = w at q1 q2
                  obtain ⟨t1, x1⟩ := w
                  dsimp only at q1 q2
                  subst q1
                  rw [zc2, zb2, zd2, (hm.at (r := x1.toNat) (by omega)).2.1, zbeq q2]
                  rfl
                · exact key (fun _ => true) rfl
            · rw [if_neg hc] at h; cases h
          | 0, s + 1, h, hM1 => cases h
          | c + 1, s, h, hM1 => cases h
      · rw [if_neg hcall] at h
        by_cases hret : o = 108 ∨ o = 109 ∨ o = 110
        · rw [if_pos hret] at h
          have e : zMt M k = some (maxL, rt, na, mc, ms) := by unfold zMt; rw [hM]
          rw [e] at h
          dsimp only at h
          cases hv : zRet rt o S with
          | none => rw [hv] at h; cases h
          | some w =>
            rw [hv] at h
            cases h
            obtain ⟨g1, g2, g3⟩ := zRet_ok (K := xRun M Lz sc f k code mc ms rt d) (Wd := Wd) (pc := pc) h1 h2 hS hv M Lz sc (xRun M Lz sc f) k d a1 a2 i (L.map zc)
            exact ⟨pc, Wd, g1, hm, g2, g3⟩
        · rw [if_neg hret] at h
          cases hp : zPure Lz zs d k o i pc (pc + zln o) a1 a2 L S m with
          | none => rw [hp] at h; cases h
          | some st =>
            obtain ⟨pc', L', S', mm⟩ := st
            rw [hp] at h
            dsimp only at h
            obtain ⟨Wd1, e, g2, g3, g4⟩ := zq_all (K := xRun M Lz sc f k code mc ms rt d) (M := M) (rt := rt) (ih := xRun M Lz sc f) hsc h1 h2 hL hS hm hp
            rw [e]
            exact IH d k pc' L' S' mm v m' h own y bb maxL rt na mc ms code hM Wd1 cc cs g2 g3 g4 h1 h2
end ZRN
