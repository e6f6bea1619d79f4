def xEnv0 (j : Int) : xEv := [(-2147483648, 2147483647), (-2147483648, 2147483647), (-2147483648, 2147483647), (-2147483648, 2147483647), (-2147483648, 2147483647), (-2147483648, 2147483647), (j, j), (-8589934592, 8589934592)]
noncomputable def xLaw (Lz fuel : Nat) (j : Int) : Bool := match xRun xM Lz fuel 0 xc_L_law 600000 7302250 (some .boolean) 100 0 [6, 11, 11, 11] [] [] 0 0 (xEnv0 j) with
  | some outs => outs.all (fun o => Nat.beq o.2.1 8)
  | none => false
theorem xr_6_9 : xLaw 6 300000 9 = true := by decide +kernel
