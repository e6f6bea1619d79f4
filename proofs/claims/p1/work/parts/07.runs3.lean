theorem xr_6_17 : xLaw 6 300000 17 17 = true := by decide +kernel
