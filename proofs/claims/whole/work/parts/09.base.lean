theorem pl_X0 : plainName RX0 = true := by decide +kernel
theorem pl_X1 : plainName RX1 = true := by decide +kernel
theorem pl_X2 : plainName RX2 = true := by decide +kernel
theorem pl_X3 : plainName RX3 = true := by decide +kernel
theorem pl_X4 : plainName RX4 = true := by decide +kernel
theorem pl_X5 : plainName RX5 = true := by decide +kernel
theorem pl_X6 : plainName RX6 = true := by decide +kernel
theorem pl_X7 : plainName RX7 = true := by decide +kernel
theorem pl_X8 : plainName RX8 = true := by decide +kernel
theorem pl_X9 : plainName RX9 = true := by decide +kernel
theorem pl_X10 : plainName RX10 = true := by decide +kernel
theorem pl_X11 : plainName RX11 = true := by decide +kernel
theorem pl_X12 : plainName RX12 = true := by decide +kernel
theorem pl_J6 : plainName RJ6 = true := by decide +kernel
theorem ts_ne {x l : Int32} {k : Int} (h : ¬ x = l) (hk : l.toInt = k) : ¬ x.toInt = k := fun z => h (Int32.toInt_inj.mp (z.trans hk.symm))
