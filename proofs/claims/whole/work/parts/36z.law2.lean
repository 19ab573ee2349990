/-! The rows of the code of the law (by computation). -/
theorem pm_kL24 : (pm_cL.getD 24 []).all (pm_okb pm_MT pm_mL) = true := by decide +kernel
theorem pm_kL25 : (pm_cL.getD 25 []).all (pm_okb pm_MT pm_mL) = true := by decide +kernel
theorem pm_kL26 : (pm_cL.getD 26 []).all (pm_okb pm_MT pm_mL) = true := by decide +kernel
theorem pm_kL27 : (pm_cL.getD 27 []).all (pm_okb pm_MT pm_mL) = true := by decide +kernel
theorem pm_kL28 : (pm_cL.getD 28 []).all (pm_okb pm_MT pm_mL) = true := by decide +kernel
theorem pm_kL29 : (pm_cL.getD 29 []).all (pm_okb pm_MT pm_mL) = true := by decide +kernel
theorem pm_kL30 : (pm_cL.getD 30 []).all (pm_okb pm_MT pm_mL) = true := by decide +kernel
theorem pm_kL31 : (pm_cL.getD 31 []).all (pm_okb pm_MT pm_mL) = true := by decide +kernel
theorem pm_kL32 : (pm_cL.getD 32 []).all (pm_okb pm_MT pm_mL) = true := by decide +kernel
theorem pm_kL33 : (pm_cL.getD 33 []).all (pm_okb pm_MT pm_mL) = true := by decide +kernel
theorem pm_kL34 : (pm_cL.getD 34 []).all (pm_okb pm_MT pm_mL) = true := by decide +kernel
theorem pm_kL35 : (pm_cL.getD 35 []).all (pm_okb pm_MT pm_mL) = true := by decide +kernel
