/-! the plain machine against the executor: fields, arrays, switches -/
section ZOR
variable {K : xKt} {cc cs : Nat} {L S : List zV} {m : zM} {Wd : List Nat} {r : zSt} {a1 a2 pc q : Nat}
theorem zTyOk : ∀ c, c < 85 → zHd c % 8 = 2 → ∀ k, k < 30 → ((zKd c k).1 = 0 → xTyOf (zHd c / 8) k = .int) ∧ ((zKd c k).1 = 1 → xTyOf (zHd c / 8) k = .long) := by decide +kernel
theorem zKlen : ∀ c, c < 85 → zHd c % 8 = 2 → (zKT.getD c []).length ≤ 30 := by decide +kernel
theorem zTy {c k ci : Nat} (hc : zHd c = 8 * ci + 2) : ((zKd c k).1 = 0 → xTyOf ci k = .int) ∧ ((zKd c k).1 = 1 → xTyOf ci k = .long) := by
  have h0 : zHd c ≠ 0 := by omega
  have h1 : c < 85 := zHd_lt h0
  have h2 : zHd c % 8 = 2 := by omega
  have e : zHd c / 8 = ci := by omega
  by_cases hk : k < 30
  · have := zTyOk c h1 h2 k hk
    rw [e] at this
    exact this
  · have h7 : zKd c k = (7, 0) := by
      unfold zKd
      rw [h2]
      show (zKT.getD c []).getD k (7, 0) = (7, 0)
      have := zKlen c h1 h2
      rw [List.getD_eq_getElem?_getD, List.getElem?_eq_none (by omega)]
      rfl
    rw [h7]
    exact ⟨fun q => absurd q (by decide), fun q => absurd q (by decide)⟩
theorem zq_getfield (hL : zRs L) (hS : zRs S) (hm : zRel m Wd) (h : zo_getf (pc + 3) a1 a2 L S m = some r) : zOK K cc cs (xo_getfield K a1 a2 pc (L.map zc) (S.map zc) Wd cc cs []) r := by
  unfold zo_getf at h
  split at h
  · next c t =>
    split at h
    · next hc =>
      split at h
      · next v hv =>
        cases h
        have h0 : zHd c.toNat ≠ 0 := by omega
        obtain ⟨g1, g2, g3⟩ := hm.at h0
        have hk : zc v = zDig (zKd c.toNat a2) (m c.toNat a2) ∧ (zKd c.toNat a2).1 ≠ 7 ∧ (zRg (zKd c.toNat a2) (m c.toNat a2) → zR v) := by
          unfold zFv at hv
          generalize zKd c.toNat a2 = kd at hv ⊢
          obtain ⟨k1, k2⟩ := kd
          match k1, hv with
          | 0, hv => cases hv; exact ⟨rfl, show (0 : Nat) ≠ 7 by decide, id⟩
          | 1, hv => cases hv; exact ⟨rfl, show (1 : Nat) ≠ 7 by decide, id⟩
          | 2, hv => cases hv; exact ⟨rfl, show (2 : Nat) ≠ 7 by decide, fun _ => trivial⟩
        obtain ⟨k1, k2, k3⟩ := hk
        obtain ⟨g4, g5⟩ := g3 a2 k2
        refine ⟨Wd, ?_, hm, hL, zrs_cons (k3 g5) (zrs_tl hS)⟩
        rw [List.map_cons]
        unfold xo_getfield
        dsimp only
        rw [zc2, zb2, cond_true, zd2, xF_eq, g2, zbeq hc, cond_true, xF_eq, xF_eq, g4, ← k1]
        rfl
      · cases h
    · cases h
  · cases h
theorem zq_putfield (hL : zRs L) (hS : zRs S) (hm : zRel m Wd) (h : zo_putf (pc + 3) a1 a2 L S m = some r) : zOK K cc cs (xo_putfield K a1 a2 pc (L.map zc) (S.map zc) Wd cc cs []) r := by
  unfold zo_putf at h
  split at h
  · next v c t =>
    split at h
    · next hc =>
      cases h
      obtain ⟨hc1, hc2, hc3⟩ := hc
      have h0 : zHd c.toNat ≠ 0 := by omega
      obtain ⟨g1, g2, g3⟩ := hm.at h0
      obtain ⟨tg, x⟩ := v
      dsimp only at hc2 hc3 ⊢
      have hv : zR (tg, x) := zrs_hd hS
      have hkk : (zKd c.toNat a2).1 = 0 ∨ (zKd c.toNat a2).1 = 1 ∨ (zKd c.toNat a2).1 = 4 := by omega
      have hd : zDig (zKd c.toNat a2) x = zc (tg, x) ∧ zRg (zKd c.toNat a2) x ∧ xFit (xTyOf a1 a2) (zc (tg, x)) = true := by
        have hty := zTy (k := a2) hc1
        generalize zKd c.toNat a2 = kd at hc3 hty ⊢
        obtain ⟨k1, k2⟩ := kd
        dsimp only at hc3
        subst hc3
        match k1, hc2, hv, hty with
        | 0, _, hv, hty => exact ⟨rfl, hv, by rw [hty.1 rfl]; exact zisI rfl⟩
        | 1, _, hv, hty => exact ⟨rfl, hv, by rw [hty.2 rfl]; exact zisL rfl⟩
      obtain ⟨d1, d2, d3⟩ := hd
      refine ⟨Wd.set c.toNat (xPn (xGet Wd c.toNat) a2 1 (zc (tg, x))), ?_, by rw [← d1]; exact hm.up h0 hkk d2, hL, zrs_tl (zrs_tl hS)⟩
      have hlt : zc (tg, x) < 4722366482869645213696 := by rw [← d1]; exact zDig_lt hkk x
      rw [List.map_cons, List.map_cons]
      unfold xo_putfield
      dsimp only
      rw [zc2, zb2, d3, zblt hlt, Bool.and_self, Bool.and_self, cond_true, zd2, xF_eq, g2, zbeq hc1, cond_true, xF_eq, xSet_eq, xF_eq]
    · cases h
  · cases h
theorem zUnn {x : Int} (h0 : 0 ≤ x) (hx : zIn x) : zU x = x.toNat ∧ x.toNat < 2147483648 := by
  unfold zIn at hx
  unfold zU
  omega
theorem zLen_hd (c : Nat) : zHd c / 8 = zLen c := rfl
theorem zKi {c k : Nat} (h : zHd c % 8 = 1) (hk : k < zLen c) : zKd c k = (0, 0) := by
  unfold zKd
  rw [h]
  show (if k < zLen c then _ else _) = _
  rw [if_pos hk]
theorem zKb {c k : Nat} (h : zHd c % 8 = 5) (hk : k < zLen c) : zKd c k = (0, 0) := by
  unfold zKd
  rw [h]
  show (if k < zLen c then _ else _) = _
  rw [if_pos hk]
theorem zKl {c k : Nat} (h : zHd c % 8 = 3) (hk : k < zLen c) : zKd c k = (4, 0) := by
  unfold zKd
  rw [h]
  show (if k < zLen c then _ else _) = _
  rw [if_pos hk]
theorem zq_iaload (hL : zRs L) (hS : zRs S) (hm : zRel m Wd) (h : zo_iald (pc + 1) L S m = some r) : zOK K cc cs (xo_iaload K a1 a2 pc (L.map zc) (S.map zc) Wd cc cs []) r := by
  unfold zo_iald at h
  split at h
  · next x c t =>
    split at h
    · next hc =>
      cases h
      obtain ⟨c1, c2, c3⟩ := hc
      have h0 : zHd c.toNat ≠ 0 := fun q => by rw [q] at c1; cases c1
      obtain ⟨g1, g2, g3⟩ := hm.at h0
      obtain ⟨u1, u2⟩ := zUnn c2 (zrs_hd hS)
      have hk := zKi (k := x.toNat) c1 (by omega)
      obtain ⟨g4, g5⟩ := g3 x.toNat (by rw [hk]; decide)
      rw [hk] at g4 g5
      refine ⟨Wd, ?_, hm, hL, zrs_cons (q := (0, m c.toNat x.toNat)) g5 (zrs_tl (zrs_tl hS))⟩
      have e : zDig (0, 0) (m c.toNat x.toNat) = zc (0, m c.toNat x.toNat) := rfl
      rw [List.map_cons, List.map_cons]
      unfold xo_iaload
      dsimp only
      rw [zc0, zb04, cond_false, zb0, zd0, u1, zblt u2, Bool.and_self, cond_true, zc2, zb2, cond_true, zd2, xF_eq, hm.at8 h0, c1, g2, zLen_hd, zblt (show x.toNat < zLen c.toNat by omega)]
      rw [show Nat.beq 1 1 = true from rfl, Bool.and_self, cond_true, xF_eq, g4, e, zisI rfl, cond_true, xF_eq]
      rfl
    · cases h
  · cases h
theorem zq_baload (hL : zRs L) (hS : zRs S) (hm : zRel m Wd) (h : zo_bald (pc + 1) L S m = some r) : zOK K cc cs (xo_baload K a1 a2 pc (L.map zc) (S.map zc) Wd cc cs []) r := by
  unfold zo_bald at h
  split at h
  · next x c t =>
    split at h
    · next hc =>
      cases h
      obtain ⟨c1, c2, c3⟩ := hc
      have h0 : zHd c.toNat ≠ 0 := fun q => by rw [q] at c1; cases c1
      obtain ⟨g1, g2, g3⟩ := hm.at h0
      obtain ⟨u1, u2⟩ := zUnn c2 (zrs_hd hS)
      have hk := zKb (k := x.toNat) c1 (by omega)
      obtain ⟨g4, g5⟩ := g3 x.toNat (by rw [hk]; decide)
      rw [hk] at g4 g5
      refine ⟨Wd, ?_, hm, hL, zrs_cons (q := (0, m c.toNat x.toNat)) g5 (zrs_tl (zrs_tl hS))⟩
      have e : zDig (0, 0) (m c.toNat x.toNat) = zc (0, m c.toNat x.toNat) := rfl
      rw [List.map_cons, List.map_cons]
      unfold xo_baload
      dsimp only
      rw [zc0, zb04, cond_false, zb0, zd0, u1, zblt u2, Bool.and_self, zc2, zb2, Bool.and_self, cond_true, zd2, xF_eq, hm.at8 h0, c1, g2, zLen_hd, zblt (show x.toNat < zLen c.toNat by omega)]
      rw [show Nat.beq 5 5 = true from rfl, Bool.and_self, cond_true, xF_eq, g4, e, zisI rfl, cond_true, xF_eq]
      rfl
    · cases h
  · cases h
theorem zq_laload (hL : zRs L) (hS : zRs S) (hm : zRel m Wd) (h : zo_lald (pc + 1) L S m = some r) : zOK K cc cs (xo_laload K a1 a2 pc (L.map zc) (S.map zc) Wd cc cs []) r := by
  unfold zo_lald at h
  split at h
  · next x c t =>
    split at h
    · next hc =>
      cases h
      obtain ⟨c1, c2, c3⟩ := hc
      have h0 : zHd c.toNat ≠ 0 := fun q => by rw [q] at c1; cases c1
      obtain ⟨g1, g2, g3⟩ := hm.at h0
      obtain ⟨u1, u2⟩ := zUnn c2 (zrs_hd hS)
      have hk := zKl (k := x.toNat) c1 (by omega)
      obtain ⟨g4, g5⟩ := g3 x.toNat (by rw [hk]; decide)
      rw [hk] at g4 g5
      refine ⟨Wd, ?_, hm, hL, zrs_cons (q := (1, m c.toNat x.toNat)) g5 (zrs_tl (zrs_tl hS))⟩
      have e : zDig (4, 0) (m c.toNat x.toNat) * 8 + 1 = zc (1, m c.toNat x.toNat) := rfl
      rw [List.map_cons, List.map_cons]
      unfold xo_laload
      dsimp only
      rw [zc0, zb0, zd0, u1, zblt u2, Bool.and_self, zc2, zb2, Bool.and_self, cond_true, zd2, xF_eq, hm.at8 h0, c1, g2, zLen_hd, zblt (show x.toNat < zLen c.toNat by omega)]
      rw [show Nat.beq 3 3 = true from rfl, Bool.and_self, cond_true, xF_eq, g4, e, xF_eq]
      rfl
    · cases h
  · cases h
theorem zq_aaload (hL : zRs L) (hS : zRs S) (hm : zRel m Wd) (h : zo_aald (pc + 1) L S m = some r) : zOK K cc cs (xo_aaload K a1 a2 pc (L.map zc) (S.map zc) Wd cc cs []) r := by
  unfold zo_aald at h
  split at h
  · next x c t =>
    split at h
    · next hc =>
      cases h
      obtain ⟨c1, c2, c3, c4⟩ := hc
      have h0 : zHd c.toNat ≠ 0 := fun q => by rw [q] at c1; cases c1
      obtain ⟨g1, g2, g3⟩ := hm.at h0
      obtain ⟨u1, u2⟩ := zUnn c2 (zrs_hd hS)
      obtain ⟨g4, g5⟩ := g3 x.toNat (by rw [c4]; decide)
      refine ⟨Wd, ?_, hm, hL, zrs_cons (q := (2, ((zKd c.toNat x.toNat).2 : Int))) trivial (zrs_tl (zrs_tl hS))⟩
      have e : zDig (zKd c.toNat x.toNat) (m c.toNat x.toNat) = (zKd c.toNat x.toNat).2 + 1 := by
        generalize zKd c.toNat x.toNat = kd at c4
        obtain ⟨k1, k2⟩ := kd
        dsimp only at c4
        subst c4
        rfl
      rw [List.map_cons, List.map_cons]
      unfold xo_aaload
      dsimp only
      rw [zc0, zb04, cond_false, zb0, zd0, u1, zblt u2, Bool.and_self, zc2, zb2, Bool.and_self, cond_true, zd2, xF_eq, hm.at8 h0, c1, g2, zLen_hd, zblt (show x.toNat < zLen c.toNat by omega)]
      rw [show Nat.beq 7 7 = true from rfl, Bool.and_self, cond_true, xF_eq, g4, e, zbne (show (zKd c.toNat x.toNat).2 + 1 ≠ 0 by omega), cond_false, xF_eq, xF_eq, Nat.add_sub_cancel]
      rfl
    · cases h
  · cases h
theorem zq_iastore (hL : zRs L) (hS : zRs S) (hm : zRel m Wd) (h : zo_iast (pc + 1) L S m = some r) : zOK K cc cs (xo_iastore K a1 a2 pc (L.map zc) (S.map zc) Wd cc cs []) r := by
  unfold zo_iast at h
  split at h
  · next v x c t =>
    split at h
    · next hc =>
      cases h
      obtain ⟨c1, c2, c3⟩ := hc
      have h0 : zHd c.toNat ≠ 0 := fun q => by rw [q] at c1; cases c1
      obtain ⟨g1, g2, g3⟩ := hm.at h0
      obtain ⟨u1, u2⟩ := zUnn c2 (zrs_hd (zrs_tl hS))
      have hk := zKi (k := x.toNat) c1 (by omega)
      have hkk : (zKd c.toNat x.toNat).1 = 0 ∨ (zKd c.toNat x.toNat).1 = 1 ∨ (zKd c.toNat x.toNat).1 = 4 := by rw [hk]; exact Or.inl rfl
      have hrg : zRg (zKd c.toNat x.toNat) v := by rw [hk]; exact zrs_hd hS
      have hup := hm.up h0 hkk hrg
      have e : zDig (zKd c.toNat x.toNat) v = zc (0, v) := by rw [hk]; rfl
      rw [e] at hup
      refine ⟨_, ?_, hup, hL, zrs_tl (zrs_tl (zrs_tl hS))⟩
      have hlt : zc (0, v) < 4722366482869645213696 := by rw [← e]; exact zDig_lt hkk v
      rw [List.map_cons, List.map_cons, List.map_cons]
      unfold xo_iastore
      dsimp only
      rw [zc0 x, zb04, cond_false, zb0, zd0, u1, zblt u2, Bool.and_self, zc2, zb2, Bool.and_self, zisI (v := (0, v)) rfl, zblt hlt, Bool.and_self, Bool.and_self, cond_true, zd2, xF_eq, hm.at8 h0, c1, g2, zLen_hd, zblt (show x.toNat < zLen c.toNat by omega)]
      rw [show Nat.beq 1 1 = true from rfl, Bool.and_self, cond_true, xF_eq, xSet_eq, xF_eq]
    · cases h
  · cases h
theorem zq_lastore (hL : zRs L) (hS : zRs S) (hm : zRel m Wd) (h : zo_last (pc + 1) L S m = some r) : zOK K cc cs (xo_lastore K a1 a2 pc (L.map zc) (S.map zc) Wd cc cs []) r := by
  unfold zo_last at h
  split at h
  · next v x c t =>
    split at h
    · next hc =>
      cases h
      obtain ⟨c1, c2, c3⟩ := hc
      have h0 : zHd c.toNat ≠ 0 := fun q => by rw [q] at c1; cases c1
      obtain ⟨g1, g2, g3⟩ := hm.at h0
      obtain ⟨u1, u2⟩ := zUnn c2 (zrs_hd (zrs_tl hS))
      have hk := zKl (k := x.toNat) c1 (by omega)
      have hkk : (zKd c.toNat x.toNat).1 = 0 ∨ (zKd c.toNat x.toNat).1 = 1 ∨ (zKd c.toNat x.toNat).1 = 4 := by rw [hk]; exact Or.inr (Or.inr rfl)
      have hrg : zRg (zKd c.toNat x.toNat) v := by rw [hk]; exact zrs_hd hS
      have hup := hm.up h0 hkk hrg
      have e : zDig (zKd c.toNat x.toNat) v = zUL v := by rw [hk]; rfl
      rw [e] at hup
      refine ⟨_, ?_, hup, hL, zrs_tl (zrs_tl (zrs_tl hS))⟩
      have hlt : zUL v * 8 + 1 < 4722366482869645213696 := by have := zUL_lt v; omega
      rw [List.map_cons, List.map_cons, List.map_cons]
      unfold xo_lastore
      dsimp only
      rw [zc0 x, zb0, zd0, u1, zblt u2, Bool.and_self, zc2, zb2, Bool.and_self, zc1, zb1, zblt hlt, Bool.and_self, Bool.and_self, cond_true, zd2, zd1, xF_eq, hm.at8 h0, c1, g2, zLen_hd, zblt (show x.toNat < zLen c.toNat by omega)]
      rw [show Nat.beq 3 3 = true from rfl, Bool.and_self, cond_true, xF_eq, xSet_eq, xF_eq]
    · cases h
  · cases h
theorem zq_bastore (hL : zRs L) (hS : zRs S) (hm : zRel m Wd) (h : zo_bast (pc + 1) L S m = some r) : zOK K cc cs (xo_bastore K a1 a2 pc (L.map zc) (S.map zc) Wd cc cs []) r := by
  unfold zo_bast at h
  split at h
  · next v x c t =>
    split at h
    · next hc =>
      cases h
      obtain ⟨c1, c2, c3, c4⟩ := hc
      have h0 : zHd c.toNat ≠ 0 := fun q => by rw [q] at c1; cases c1
      obtain ⟨g1, g2, g3⟩ := hm.at h0
      obtain ⟨u1, u2⟩ := zUnn c2 (zrs_hd (zrs_tl hS))
      have hk := zKb (k := x.toNat) c1 (by omega)
      have hkk : (zKd c.toNat x.toNat).1 = 0 ∨ (zKd c.toNat x.toNat).1 = 1 ∨ (zKd c.toNat x.toNat).1 = 4 := by rw [hk]; exact Or.inl rfl
      have hrg : zRg (zKd c.toNat x.toNat) v := by rw [hk]; exact zrs_hd hS
      have hup := hm.up h0 hkk hrg
      have e : zDig (zKd c.toNat x.toNat) v = zc (0, v) := by rw [hk]; rfl
      rw [e] at hup
      refine ⟨_, ?_, hup, hL, zrs_tl (zrs_tl (zrs_tl hS))⟩
      have hvv : (Nat.beq (zc (0, v)) 0 || Nat.beq (zc (0, v)) 8) = true := by
        rcases c4 with rfl | rfl <;> decide +kernel
      rw [List.map_cons, List.map_cons, List.map_cons]
      unfold xo_bastore
      dsimp only
      rw [zc0 x, zb04, cond_false, zb0, zd0, u1, zblt u2, Bool.and_self, zc2, zb2, Bool.and_self, hvv, Bool.and_self, cond_true, zd2, xF_eq, hm.at8 h0, c1, g2, zLen_hd, zblt (show x.toNat < zLen c.toNat by omega)]
      rw [show Nat.beq 5 5 = true from rfl, Bool.and_self, cond_true, xF_eq, xSet_eq, xF_eq]
    · cases h
  · cases h
theorem zq_sload {Lz k0 mc ms : Nat} {zs : Nat → Int32} {sc : Nat → Nat} (hsc : ∀ i, sc i = xN32 (zs i) * 8) (hL : zRs L) (hS : zRs S) (hm : zRel m Wd) (h : zo_sld Lz zs k0 (pc + 1) L S m = some r) : zOK K cc cs (xo_sload Lz sc k0 mc ms K a1 a2 pc (L.map zc) (S.map zc) Wd cc cs []) r := by
  unfold zo_sld at h
  split at h
  · next x w t =>
    split at h
    · next hc =>
      cases h
      obtain ⟨c1, c2, c3⟩ := hc
      obtain ⟨u1, u2⟩ := zUnn c2 (zrs_hd hS)
      refine ⟨Wd, ?_, hm, hL, zrs_cons (q := (0, (zs x.toNat).toInt)) (zToInt _) (zrs_tl (zrs_tl hS))⟩
      rw [List.map_cons, List.map_cons]
      unfold xo_sload
      dsimp only
      rw [zc0, zb0, zd0, u1, zblt u2, c1, zblt (show x.toNat < Lz by omega), show zc (6, w) = 6 from rfl, show Nat.beq 6 6 = true from rfl, show Nat.beq 0 0 = true from rfl]
      simp only [Bool.and_self, cond_true]
      rw [xF_eq, xF_eq, hsc, List.map_cons, zc0, zU_N]
    · cases h
  · cases h
theorem zq_alen {Lz k0 mc ms : Nat} (hL : zRs L) (hS : zRs S) (hm : zRel m Wd) (h : zo_alen Lz k0 (pc + 1) L S m = some r) : zOK K cc cs (xo_alen Lz k0 mc ms K a1 a2 pc (L.map zc) (S.map zc) Wd cc cs []) r := by
  unfold zo_alen at h
  split at h
  · next c t =>
    split at h
    · next hc =>
      cases h
      obtain ⟨c1, c2⟩ := hc
      have h0 : zHd c.toNat ≠ 0 := fun q => by rw [q] at c1; cases c1
      obtain ⟨g1, g2, g3⟩ := hm.at h0
      have hb : zLen c.toNat < 2147483648 := by unfold zLen; omega
      have hz : zIn (zLen c.toNat : Int) := by unfold zIn; omega
      refine ⟨Wd, ?_, hm, hL, zrs_cons (q := (0, (zLen c.toNat : Int))) hz (zrs_tl hS)⟩
      have e : zU (zLen c.toNat : Int) = zLen c.toNat := by unfold zU; omega
      have e2 : Nat.beq (xGet Wd c.toNat % 2) 1 = true := zbeq (by rw [← x2, hm.at8 h0, c1])
      rw [List.map_cons]
      unfold xo_alen
      dsimp only
      rw [zc2, zb2, cond_true, zd2, xF_eq, e2, cond_true, xF_eq, xF_eq, g2, zLen_hd, List.map_cons, zc0, e]
    · cases h
  · next w t =>
    split at h
    · next hc =>
      cases h
      obtain ⟨c1, c2⟩ := hc
      have hz : zIn (Lz : Int) := by unfold zIn; omega
      refine ⟨Wd, ?_, hm, hL, zrs_cons (q := (0, (Lz : Int))) hz (zrs_tl hS)⟩
      have e : zU (Lz : Int) = Lz := by unfold zU; omega
      rw [List.map_cons]
      unfold xo_alen
      dsimp only
      rw [show zc (6, w) = 6 from rfl, show Nat.beq (6 % 8) 2 = false from rfl, cond_false, c1, show Nat.beq 6 6 = true from rfl, show Nat.beq 0 0 = true from rfl]
      simp only [Bool.and_self, cond_true]
      rw [xF_eq, xF_eq, List.map_cons, zc0, e]
    · cases h
  · cases h
theorem zq_lsw {i : Instr} (hL : zRs L) (hS : zRs S) (hm : zRel m Wd) (h : zo_lsw i pc L S m = some r) : zOK K cc cs (xo_lsw K i pc (L.map zc) (S.map zc) Wd cc cs []) r := by
  unfold zo_lsw at h
  split at h
  · next df ps =>
    split at h
    · next x t =>
      split at h
      · next hc =>
        cases h
        refine ⟨Wd, ?_, hm, hL, zrs_tl hS⟩
        rw [List.map_cons]
        unfold xo_lsw
        dsimp only
        rw [zc0, zb0, cond_true, zd0, zxs32 (zrs_hd hS), if_pos hc, xF_eq]
      · cases h
    · cases h
  · cases h
theorem zq_acopy {d : Nat} (hL : zRs L) (hS : zRs S) (hm : zRel m Wd) (h : zo_acopy d (pc + 3) L S m = some r) : zOK K cc cs (xo_acopy d K pc (L.map zc) (S.map zc) Wd cc cs []) r := by
  unfold zo_acopy at h
  split at h
  · next n dp dst sp src t =>
    split at h
    · next hc =>
      cases h
      obtain ⟨c1, c2, c3, c4, c5, c6, c7, c8, c9, c10⟩ := hc
      have h0 : zHd dst.toNat ≠ 0 := fun q => by rw [q] at c7; cases c7
      have h1 : zHd src.toNat ≠ 0 := fun q => by rw [q] at c8; cases c8
      obtain ⟨u1, u2⟩ := zUnn c1 (zrs_hd hS)
      obtain ⟨u3, u4⟩ := zUnn c2 (zrs_hd (zrs_tl hS))
      obtain ⟨u5, u6⟩ := zUnn c3 (zrs_hd (zrs_tl (zrs_tl (zrs_tl hS))))
      have hcp := hm.cp (dp := dp.toNat) (sp := sp.toNat) (n := n.toNat) c7 c8 (by omega) (by omega)
      refine ⟨_, ?_, hcp, hL, zrs_tl (zrs_tl (zrs_tl (zrs_tl (zrs_tl hS))))⟩
      have hne : (!(Nat.beq (dst.toNat * 8 + 2) (src.toNat * 8 + 2))) = true := by rw [zbne (by omega)]; rfl
      rw [List.map_cons, List.map_cons, List.map_cons, List.map_cons, List.map_cons]
      unfold xo_acopy
      dsimp only
      rw [zc0, zc0, zc0, zc2, zc2, zb0, zb0, zb0, zb2, zb2, zd0, zd0, zd0, zd2, zd2, u1, u3, u5, zblt u2, zblt u4, zblt u6, zcats, zble c4, zblt c5, hne]
      simp only [Bool.and_self, cond_true]
      rw [xF_eq, xF_eq, hm.at8 h0, hm.at8 h1, c7, c8, (hm.at h0).2.1, (hm.at h1).2.1, zLen_hd, zLen_hd, zble (show dp.toNat + n.toNat ≤ zLen dst.toNat by omega), zble (show sp.toNat + n.toNat ≤ zLen src.toNat by omega)]
      rw [show Nat.beq 1 1 = true from rfl]
      simp only [Bool.and_self, cond_true]
      rw [xF_eq, xSet_eq, xF_eq]
    · cases h
  · cases h
end ZOR
