/-! The law's own text, checked against its bytes: 4. -/
theorem ck9_28 : (pcs 28).all lwb = true := by decide +kernel
theorem ck9_29 : (pcs 29).all lwb = true := by decide +kernel
theorem ck9_30 : (pcs 30).all lwb = true := by decide +kernel
theorem ck9_31 : (pcs 31).all lwb = true := by decide +kernel
theorem ck9_32 : (pcs 32).all lwb = true := by decide +kernel
theorem ck9_33 : (pcs 33).all lwb = true := by decide +kernel
theorem ck9_34 : (pcs 34).all lwb = true := by decide +kernel
