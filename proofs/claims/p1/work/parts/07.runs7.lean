theorem xr_6_31 : xLaw 6 300000 31 31 = true := by decide +kernel
