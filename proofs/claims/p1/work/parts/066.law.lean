/-! the law's walk: one run of the executor for each kind of first call -/
def xEnv1 (lo hi : Int) : xEv := [(-2147483648, 2147483647), (-2147483648, 2147483647), (-2147483648, 2147483647), (-2147483648, 2147483647), (-2147483648, 2147483647), (-2147483648, 2147483647), (lo, hi), (-8589934592, 8589934592)]
noncomputable def xLaw (Lz fuel : Nat) (lo hi : Int) : Bool := match xRun xM Lz fuel 0 (xG 1250 xc_L_law) 600000 7302250 (some .boolean) 100 0 [6, 11, 11, 11] [] [] 0 0 (xEnv1 lo hi) with
  | some outs => outs.all (fun o => Nat.beq o.2.1 8)
  | none => false
