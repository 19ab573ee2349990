/-! The rows of the code of the law (by computation). -/
theorem pm_kL0 : (pm_cL.getD 0 []).all (pm_okb pm_MT pm_mL) = true := by decide +kernel
theorem pm_kL1 : (pm_cL.getD 1 []).all (pm_okb pm_MT pm_mL) = true := by decide +kernel
theorem pm_kL2 : (pm_cL.getD 2 []).all (pm_okb pm_MT pm_mL) = true := by decide +kernel
theorem pm_kL3 : (pm_cL.getD 3 []).all (pm_okb pm_MT pm_mL) = true := by decide +kernel
theorem pm_kL4 : (pm_cL.getD 4 []).all (pm_okb pm_MT pm_mL) = true := by decide +kernel
theorem pm_kL5 : (pm_cL.getD 5 []).all (pm_okb pm_MT pm_mL) = true := by decide +kernel
theorem pm_kL6 : (pm_cL.getD 6 []).all (pm_okb pm_MT pm_mL) = true := by decide +kernel
theorem pm_kL7 : (pm_cL.getD 7 []).all (pm_okb pm_MT pm_mL) = true := by decide +kernel
theorem pm_kL8 : (pm_cL.getD 8 []).all (pm_okb pm_MT pm_mL) = true := by decide +kernel
theorem pm_kL9 : (pm_cL.getD 9 []).all (pm_okb pm_MT pm_mL) = true := by decide +kernel
theorem pm_kL10 : (pm_cL.getD 10 []).all (pm_okb pm_MT pm_mL) = true := by decide +kernel
theorem pm_kL11 : (pm_cL.getD 11 []).all (pm_okb pm_MT pm_mL) = true := by decide +kernel
