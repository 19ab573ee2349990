/-! The rows of the code of the law (by computation). -/
theorem pm_kL36 : (pm_cL.getD 36 []).all (pm_okb pm_MT pm_mL) = true := by decide +kernel
theorem pm_kL37 : (pm_cL.getD 37 []).all (pm_okb pm_MT pm_mL) = true := by decide +kernel
theorem pm_kL38 : (pm_cL.getD 38 []).all (pm_okb pm_MT pm_mL) = true := by decide +kernel
theorem pm_kL39 : (pm_cL.getD 39 []).all (pm_okb pm_MT pm_mL) = true := by decide +kernel
theorem pm_kL40 : (pm_cL.getD 40 []).all (pm_okb pm_MT pm_mL) = true := by decide +kernel
theorem pm_kL41 : (pm_cL.getD 41 []).all (pm_okb pm_MT pm_mL) = true := by decide +kernel
theorem pm_kL42 : (pm_cL.getD 42 []).all (pm_okb pm_MT pm_mL) = true := by decide +kernel
theorem pm_kL43 : (pm_cL.getD 43 []).all (pm_okb pm_MT pm_mL) = true := by decide +kernel
theorem pm_kL44 : (pm_cL.getD 44 []).all (pm_okb pm_MT pm_mL) = true := by decide +kernel
theorem pm_kL45 : (pm_cL.getD 45 []).all (pm_okb pm_MT pm_mL) = true := by decide +kernel
