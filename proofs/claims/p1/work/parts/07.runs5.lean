theorem xr_6_13 : xLaw 6 300000 13 13 = true := by decide +kernel
