theorem xr_6_15 : xLaw 6 300000 15 15 = true := by decide +kernel
