theorem xr_6_30 : xLaw 6 300000 30 30 = true := by decide +kernel
