def xEnv0 (j : Int) : xEv := [(-2147483648, 2147483647), (-2147483648, 2147483647), (-2147483648, 2147483647), (-2147483648, 2147483647), (-2147483648, 2147483647), (-2147483648, 2147483647), (j, j), (-8589934592, 8589934592)]
noncomputable def xLaw (Lz fuel : Nat) (j : Int) : Bool := match xRun xM Lz fuel 0 xc_L_law 600000 7302250 (some .boolean) 100 0 [6, 11, 11, 11] [] [] 0 0 (xEnv0 j) with
  | some outs => outs.all (fun o => Nat.beq o.2.1 8)
  | none => false
theorem xr_6_9 : xLaw 6 300000 9 = true := by decide +kernel
theorem xr_6_15 : xLaw 6 300000 15 = true := by decide +kernel
theorem xr_6_21 : xLaw 6 300000 21 = true := by decide +kernel
theorem xr_6_22 : xLaw 6 300000 22 = true := by decide +kernel
theorem xr_6_23 : xLaw 6 300000 23 = true := by decide +kernel
theorem xr_6_24 : xLaw 6 300000 24 = true := by decide +kernel
theorem xr_6_25 : xLaw 6 300000 25 = true := by decide +kernel
theorem xr_6_26 : xLaw 6 300000 26 = true := by decide +kernel
theorem xr_6_27 : xLaw 6 300000 27 = true := by decide +kernel
theorem xr_6_28 : xLaw 6 300000 28 = true := by decide +kernel
theorem xr_6_29 : xLaw 6 300000 29 = true := by decide +kernel
theorem xr_6_30 : xLaw 6 300000 30 = true := by decide +kernel
theorem xr_6_31 : xLaw 6 300000 31 = true := by decide +kernel
theorem xr_6_32 : xLaw 6 300000 32 = true := by decide +kernel
theorem xr_6_33 : xLaw 6 300000 33 = true := by decide +kernel
theorem xr_6_34 : xLaw 6 300000 34 = true := by decide +kernel
