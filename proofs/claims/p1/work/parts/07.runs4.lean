theorem xr_6_9 : xLaw 6 300000 9 9 = true := by decide +kernel
