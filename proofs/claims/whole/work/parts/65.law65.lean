/-! The law's own text, checked against its bytes: 2. -/
theorem ck9_12 : (pcs 12).all lwb = true := by decide +kernel
theorem ck9_13 : (pcs 13).all lwb = true := by decide +kernel
theorem ck9_14 : (pcs 14).all lwb = true := by decide +kernel
theorem ck9_15 : (pcs 15).all lwb = true := by decide +kernel
theorem ck9_16 : (pcs 16).all lwb = true := by decide +kernel
theorem ck9_17 : (pcs 17).all lwb = true := by decide +kernel
theorem ck9_18 : (pcs 18).all lwb = true := by decide +kernel
theorem ck9_19 : (pcs 19).all lwb = true := by decide +kernel
theorem ck9_20 : (pcs 20).all lwb = true := by decide +kernel
