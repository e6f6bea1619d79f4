section ZTS
variable {K : xKt} {cc cs : Nat} {L S : List zV} {m : zM} {Wd : List Nat} {r : zSt} {a1 a2 pc q : Nat}
theorem xtsw_lo {df lo hi : Int} {offs : Array Int} {c : Nat} {t L' : List Nat} (h1 : c % 8 = 0) (hx : xs32 (c / 8) < lo ∨ hi < xs32 (c / 8)) (hc : 0 ≤ (pc : Int) + df) : xo_tsw K (.tableswitch df lo hi offs) pc L' (c :: t) Wd cc cs [] = K ((pc : Int) + df).toNat L' t Wd cc cs [] := by
  unfold xo_tsw
  dsimp only
  rw [zbeq h1, cond_true, if_pos hx, if_pos hc, xF_eq]
theorem xtsw_in {df lo hi off : Int} {offs : Array Int} {c : Nat} {t L' : List Nat} (h1 : c % 8 = 0) (hx : ¬ (xs32 (c / 8) < lo ∨ hi < xs32 (c / 8))) (ho : offs[(xs32 (c / 8) - lo).toNat]? = some off) (hc : 0 ≤ (pc : Int) + off) : xo_tsw K (.tableswitch df lo hi offs) pc L' (c :: t) Wd cc cs [] = K ((pc : Int) + off).toNat L' t Wd cc cs [] := by
  unfold xo_tsw
  dsimp only
  rw [zbeq h1, cond_true, if_neg hx, ho]
  dsimp only
  rw [if_pos hc, xF_eq]
theorem zq_tsw {i : Instr} (hL : zRs L) (hS : zRs S) (hm : zRel m Wd) (h : zo_tsw i pc L S m = some r) : zOK K cc cs (xo_tsw K i pc (L.map zc) (S.map zc) Wd cc cs []) r := by
  unfold zo_tsw at h
  split at h
  · next df lo hi offs =>
    split at h
    · next x t =>
      have e0 : zc (0, x) % 8 = 0 := by rw [zc0]; exact Nat.mul_mod_left _ _
      have e1 : xs32 (zc (0, x) / 8) = x := by rw [zc0, zd0]; exact zxs32 (zrs_hd hS)
      generalize hcx : zc (0, x) = c at e0 e1
      split at h
      · next hx =>
        split at h
        · next hc =>
          cases h
          refine ⟨Wd, ?_, hm, hL, zrs_tl hS⟩
          rw [List.map_cons, hcx]
          exact xtsw_lo e0 (by rw [e1]; exact hx) hc
        · cases h
      · next hx =>
        split at h
        · cases h
        · next off ho =>
          split at h
          · next hc =>
            cases h
            refine ⟨Wd, ?_, hm, hL, zrs_tl hS⟩
            rw [List.map_cons, hcx]
            exact xtsw_in e0 (by rw [e1]; exact hx) (by rw [e1]; exact ho) hc
          · cases h
    · cases h
  · cases h
end ZTS
