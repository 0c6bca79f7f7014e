/-! The law's own text, checked against its bytes: 3. -/
theorem ck9_21 : (pcs 21).all lwb = true := by decide +kernel
theorem ck9_22 : (pcs 22).all lwb = true := by decide +kernel
theorem ck9_23 : (pcs 23).all lwb = true := by decide +kernel
theorem ck9_24 : (pcs 24).all lwb = true := by decide +kernel
theorem ck9_25 : (pcs 25).all lwb = true := by decide +kernel
theorem ck9_26 : (pcs 26).all lwb = true := by decide +kernel
theorem ck9_27 : (pcs 27).all lwb = true := by decide +kernel
