/-! The law's own text, checked against its bytes: 1. -/
def pcs (i : Nat) : Tx := (tx_900.drop (4 * i)).take 4
def lwb (b : Nat × Nat × List Ins) : Bool := chk 13 code b.1 b.2.2 && chS 8 (some .boolean) b.2.2
theorem tx9_len : tx_900.length = 137 := by decide +kernel
theorem ck9_0 : (pcs 0).all lwb = true := by decide +kernel
theorem ck9_1 : (pcs 1).all lwb = true := by decide +kernel
theorem ck9_2 : (pcs 2).all lwb = true := by decide +kernel
theorem ck9_3 : (pcs 3).all lwb = true := by decide +kernel
theorem ck9_4 : (pcs 4).all lwb = true := by decide +kernel
theorem ck9_5 : (pcs 5).all lwb = true := by decide +kernel
theorem ck9_6 : (pcs 6).all lwb = true := by decide +kernel
theorem ck9_7 : (pcs 7).all lwb = true := by decide +kernel
theorem ck9_8 : (pcs 8).all lwb = true := by decide +kernel
theorem ck9_9 : (pcs 9).all lwb = true := by decide +kernel
theorem ck9_10 : (pcs 10).all lwb = true := by decide +kernel
theorem ck9_11 : (pcs 11).all lwb = true := by decide +kernel
