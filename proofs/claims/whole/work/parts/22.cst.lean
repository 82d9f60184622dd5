/-! Methods as plain functions over contents, by program; each with the proof that the abstract machine ends with it. -/
theorem ne_toInt {a b : Int32} {v : Int} (h : ¬ a = b) (hb : b.toInt = v) : a.toInt ≠ v := fun z => h (Int32.toInt_inj.mp (z.trans hb.symm))
theorem cst_m100000 : Int32.ofInt (-100000) = (-100000) := by decide
theorem cst_m1 : Int32.ofInt (-1) = (-1) := by decide
theorem cst_0 : Int32.ofInt 0 = 0 := by decide
theorem cst_1 : Int32.ofInt 1 = 1 := by decide
theorem cst_4 : Int32.ofInt 4 = 4 := by decide
theorem cst_30 : Int32.ofInt 30 = 30 := by decide
theorem cst_211 : Int32.ofInt 211 = 211 := by decide
theorem cst_212 : Int32.ofInt 212 = 212 := by decide
theorem cst_214 : Int32.ofInt 214 = 214 := by decide
