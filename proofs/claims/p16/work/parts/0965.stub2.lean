theorem xci_0 : Jvm.Cond.instantiable RX1 7 ∈ xTb ∧ Jvm.Cond.initialized RX1 ∈ xTb := ⟨xAt_ok (j := 285) (by decide +kernel), xAt_ok (j := 78) (by decide +kernel)⟩
theorem xci_1 : Jvm.Cond.instantiable RX2 10 ∈ xTb ∧ Jvm.Cond.initialized RX2 ∈ xTb := ⟨xAt_ok (j := 224) (by decide +kernel), xAt_ok (j := 77) (by decide +kernel)⟩
theorem xci_2 : Jvm.Cond.instantiable RX3 2 ∈ xTb ∧ Jvm.Cond.initialized RX3 ∈ xTb := ⟨xAt_ok (j := 203) (by decide +kernel), xAt_ok (j := 75) (by decide +kernel)⟩
theorem xci_3 : Jvm.Cond.instantiable RX4 6 ∈ xTb ∧ Jvm.Cond.initialized RX4 ∈ xTb := ⟨xAt_ok (j := 218) (by decide +kernel), xAt_ok (j := 76) (by decide +kernel)⟩
theorem xci_4 : Jvm.Cond.instantiable RX5 18 ∈ xTb ∧ Jvm.Cond.initialized RX5 ∈ xTb := ⟨xAt_ok (j := 98) (by decide +kernel), xAt_ok (j := 74) (by decide +kernel)⟩
theorem xci_5 : Jvm.Cond.instantiable RX6 3 ∈ xTb ∧ Jvm.Cond.initialized RX6 ∈ xTb := ⟨xAt_ok (j := 341) (by decide +kernel), xAt_ok (j := 80) (by decide +kernel)⟩
theorem xci_6 : Jvm.Cond.instantiable RX7 6 ∈ xTb ∧ Jvm.Cond.initialized RX7 ∈ xTb := ⟨xAt_ok (j := 316) (by decide +kernel), xAt_ok (j := 79) (by decide +kernel)⟩
theorem xci_7 : Jvm.Cond.instantiable RX8 7 ∈ xTb ∧ Jvm.Cond.initialized RX8 ∈ xTb := ⟨xAt_ok (j := 357) (by decide +kernel), xAt_ok (j := 81) (by decide +kernel)⟩
theorem xci_8 : Jvm.Cond.instantiable RX9 9 ∈ xTb ∧ Jvm.Cond.initialized RX9 ∈ xTb := ⟨xAt_ok (j := 90) (by decide +kernel), xAt_ok (j := 73) (by decide +kernel)⟩
theorem xci_9 : Jvm.Cond.instantiable RX10 27 ∈ xTb ∧ Jvm.Cond.initialized RX10 ∈ xTb := ⟨xAt_ok (j := 982) (by decide +kernel), xAt_ok (j := 82) (by decide +kernel)⟩
theorem xMall_ok : xMall xM := sorry
