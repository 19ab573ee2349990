/-! The rows of the code of the law (by computation). -/
theorem pm_kL12 : (pm_cL.getD 12 []).all (pm_okb pm_MT pm_mL) = true := by decide +kernel
theorem pm_kL13 : (pm_cL.getD 13 []).all (pm_okb pm_MT pm_mL) = true := by decide +kernel
theorem pm_kL14 : (pm_cL.getD 14 []).all (pm_okb pm_MT pm_mL) = true := by decide +kernel
theorem pm_kL15 : (pm_cL.getD 15 []).all (pm_okb pm_MT pm_mL) = true := by decide +kernel
theorem pm_kL16 : (pm_cL.getD 16 []).all (pm_okb pm_MT pm_mL) = true := by decide +kernel
theorem pm_kL17 : (pm_cL.getD 17 []).all (pm_okb pm_MT pm_mL) = true := by decide +kernel
theorem pm_kL18 : (pm_cL.getD 18 []).all (pm_okb pm_MT pm_mL) = true := by decide +kernel
theorem pm_kL19 : (pm_cL.getD 19 []).all (pm_okb pm_MT pm_mL) = true := by decide +kernel
theorem pm_kL20 : (pm_cL.getD 20 []).all (pm_okb pm_MT pm_mL) = true := by decide +kernel
theorem pm_kL21 : (pm_cL.getD 21 []).all (pm_okb pm_MT pm_mL) = true := by decide +kernel
theorem pm_kL22 : (pm_cL.getD 22 []).all (pm_okb pm_MT pm_mL) = true := by decide +kernel
theorem pm_kL23 : (pm_cL.getD 23 []).all (pm_okb pm_MT pm_mL) = true := by decide +kernel
