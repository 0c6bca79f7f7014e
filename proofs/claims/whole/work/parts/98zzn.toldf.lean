/-! The class is told of farms, rules, breaks, the forced rule, who goes by. -/
theorem sI_k (M : Mm) {k j a b : Nat} (v : Int32) (h : a ≠ k) : (sI M k j v).1 a b = M.1 a b := sI_ne M v (fun q => h q.1)
theorem sI_e (M : Mm) (k j : Nat) (v : Int32) : (sI M k j v).1 k j = v := if_pos ⟨rfl, rfl⟩
theorem wz_no {i v : Nat} (h : shf i = false) : wz i v = (v : Int) := by
  unfold wz
  rw [h]
  rfl
theorem wz_s {i v : Nat} (h : shf i = true) : wz i v = (v : Int) - 1 := by
  unfold wz
  rw [h]
  rfl
theorem shf_21 : ∀ f, f < 3 → shf (21 + 5 * f) = true := by decide
section TF
variable {d : Nat} {M : Mm} {w : Nat → Nat} {ta : Nat → Nat → Nat → Nat}
theorem TSV_c {V : Nat → Prop} (h : TSV V w M) {i k j : Nat} (hi : i < 475) (hp : pl i = (k, j)) {v : Nat} {x : Int32} (hx : x = iz (wz i v)) : TSV (fun j => V j ∨ j = i) (up w i v) (sI M k j x) := by
  have := h.up hi v
  rw [hp] at this
  rw [hx]
  exact this
theorem TZE_c (h : TZE M) {i k j : Nat} (hi : i < 475) (hp : pl i = (k, j)) (x : Int32) : TZE (sI M k j x) := by
  have := h.up hi x
  rw [hp] at this
  exact this

theorem fmW_8 {a b c e : Nat} : fmW w a b c e 8 = w 8 + 1 := up_e _ _ _
theorem fmW_9 {a b c e : Nat} : fmW w a b c e 9 = w 9 := by
  unfold fmW
  simp (disch := omega) only [up_n]
theorem fmW_11 {a b c e : Nat} : fmW w a b c e 11 = w 11 := by
  unfold fmW
  simp (disch := omega) only [up_n]
theorem fmW_12 {a b c e : Nat} : fmW w a b c e 12 = w 12 := by
  unfold fmW
  simp (disch := omega) only [up_n]
theorem fmW_13 {a b c e : Nat} : fmW w a b c e 13 = w 13 := by
  unfold fmW
  simp (disch := omega) only [up_n]

theorem ruW_8 {a b c e f : Nat} : ruW w a b c e f 8 = w 8 := by
  unfold ruW
  simp (disch := omega) only [up_n]
theorem ruW_9 {a b c e f : Nat} : ruW w a b c e f 9 = w 9 + 1 := up_e _ _ _
theorem ruW_11 {a b c e f : Nat} : ruW w a b c e f 11 = w 11 := by
  unfold ruW
  simp (disch := omega) only [up_n]
theorem ruW_12 {a b c e f : Nat} : ruW w a b c e f 12 = w 12 := by
  unfold ruW
  simp (disch := omega) only [up_n]
theorem ruW_13 {a b c e f : Nat} : ruW w a b c e f 13 = w 13 := by
  unfold ruW
  simp (disch := omega) only [up_n]

theorem bkW_8 {a b c : Nat} : bkW w a b c 8 = w 8 := by
  unfold bkW
  simp (disch := omega) only [up_n]
theorem bkW_9 {a b c : Nat} : bkW w a b c 9 = w 9 := by
  unfold bkW
  simp (disch := omega) only [up_n]
theorem bkW_11 {a b c : Nat} : bkW w a b c 11 = w 11 := by
  unfold bkW
  simp (disch := omega) only [up_n]
theorem bkW_12 {a b c : Nat} : bkW w a b c 12 = w 12 + 1 := up_e _ _ _
theorem bkW_13 {a b c : Nat} : bkW w a b c 13 = w 13 := by
  unfold bkW
  simp (disch := omega) only [up_n]

theorem c48 (hI : TI w ta M) (hb : WB w) (h8 : w 8 < 3) {a b c e : Nat} : SC (d + 1) 48 [.ref 512, .int (iz a), .int (iz b), .int (iz c), .int (iz e)] M (fun vs N => vs = [.int (nI (w 8))] ∧ TI (fmW w a b c e) ta N ∧ Fr aTold M N) := by
  have hc : M.1 512 5 = nI (w 8) := (hI.tr hb).1.2.1.1
  refine sC (by decide) rfl (go_in (e48_0 ?_))
  obtain ⟨h1, h2, h3⟩ := hI
  have p0 : pl (17 + 5 * w 8) = (33798, w 8 * 4 + 1) := by have h := pl_17 (w 8) h8 1 (by decide) (by decide); rw [show 16 + 5 * w 8 + 1 = 17 + 5 * w 8 by omega] at h; exact h
  have p1 : pl (18 + 5 * w 8) = (33798, w 8 * 4 + 2) := by have h := pl_17 (w 8) h8 2 (by decide) (by decide); rw [show 16 + 5 * w 8 + 2 = 18 + 5 * w 8 by omega] at h; exact h
  have p2 : pl (19 + 5 * w 8) = (33798, w 8 * 4 + 3) := by have h := pl_17 (w 8) h8 3 (by decide) (by decide); rw [show 16 + 5 * w 8 + 3 = 19 + 5 * w 8 by omega] at h; exact h
  have p3 : pl (20 + 5 * w 8) = (33799, w 8) := (pl_20 (w 8) h8).1
  have p4 : pl (21 + 5 * w 8) = (33800, w 8) := (pl_20 (w 8) h8).2
  simp (disch := omega) only [sI_k, sI_e, hc, nI_mul, nI_add, nI_c, nI_sub, Nat.add_sub_cancel]
  refine ⟨nI_in2 (by omega) (by decide), nI_in2 (by omega) (by decide), nI_in2 (by omega) (by decide), nI_in2 (by omega) (by decide), nI_in2 (by omega) (by decide), rfl, rfl, ⟨TSV.le (TSV_c (TSV_c (TSV_c (TSV_c (TSV_c (TSV_c h1 (by omega) p0 (v := a) (by rw [wz_no (shf_no (by omega))])) (by omega) p1 (v := b) (by rw [wz_no (shf_no (by omega))])) (by omega) p2 (v := c) (by rw [wz_no (shf_no (by omega))])) (by omega) p3 (v := e) (by rw [wz_no (shf_no (by omega))])) (by omega) p4 (v := 0) (by rw [wz_s (shf_21 _ h8)]; rfl)) (i := 8) (by decide) rfl (v := w 8 + 1) (iz_n _)) fun i hi hv => ?_, (TZE_c (TZE_c (TZE_c (TZE_c (TZE_c (TZE_c h2 (by omega) p0 _) (by omega) p1 _) (by omega) p2 _) (by omega) p3 _) (by omega) p4 _) (i := 8) (by decide) rfl _), fun q T i hq hT hT7 hi => h3 q T i (by rw [fmW_11] at hq; exact hq) hT hT7 hi⟩, ((((((Fr.rf.sI rfl).sI rfl).sI rfl).sI rfl).sI rfl).sI rfl)⟩
  simp only [vld] at hv ⊢
  rw [fmW_8, fmW_9, fmW_12, fmW_13] at hv
  omega

theorem c49 (hI : TI w ta M) (hb : WB w) (h8 : w 9 < 5) {a b c e f : Nat} : SC (d + 1) 49 [.ref 512, .int (iz a), .int (iz b), .int (iz c), .int (iz e), .int (iz f)] M (fun vs N => vs = [.int (nI (w 9))] ∧ TI (ruW w a b c e f) ta N ∧ Fr aTold M N) := by
  have hc : M.1 512 9 = nI (w 9) := (hI.tr hb).1.2.1.2.1
  refine sC (by decide) rfl (go_in (e49_0 ?_))
  obtain ⟨h1, h2, h3⟩ := hI
  have p0 : pl (32 + 5 * w 9 + 0) = (33803, w 9 * 5 + 0) := pl_32 (w 9) h8 0 (by decide)
  have p1 : pl (32 + 5 * w 9 + 1) = (33803, w 9 * 5 + 1) := pl_32 (w 9) h8 1 (by decide)
  have p2 : pl (32 + 5 * w 9 + 2) = (33803, w 9 * 5 + 2) := pl_32 (w 9) h8 2 (by decide)
  have p3 : pl (32 + 5 * w 9 + 3) = (33803, w 9 * 5 + 3) := pl_32 (w 9) h8 3 (by decide)
  have p4 : pl (32 + 5 * w 9 + 4) = (33803, w 9 * 5 + 4) := pl_32 (w 9) h8 4 (by decide)
  simp (disch := omega) only [sI_k, sI_e, hc, nI_mul, nI_add, nI_c, nI_sub, Nat.add_sub_cancel]
  refine ⟨nI_in2 (by omega) (by decide), nI_in2 (by omega) (by decide), nI_in2 (by omega) (by decide), nI_in2 (by omega) (by decide), nI_in2 (by omega) (by decide), rfl, rfl, ⟨TSV.le (TSV_c (TSV_c (TSV_c (TSV_c (TSV_c (TSV_c h1 (by omega) p0 (v := a) (by rw [wz_no (shf_no (by omega))])) (by omega) p1 (v := b) (by rw [wz_no (shf_no (by omega))])) (by omega) p2 (v := c) (by rw [wz_no (shf_no (by omega))])) (by omega) p3 (v := e) (by rw [wz_no (shf_no (by omega))])) (by omega) p4 (v := f) (by rw [wz_no (shf_no (by omega))])) (i := 9) (by decide) rfl (v := w 9 + 1) (iz_n _)) fun i hi hv => ?_, (TZE_c (TZE_c (TZE_c (TZE_c (TZE_c (TZE_c h2 (by omega) p0 _) (by omega) p1 _) (by omega) p2 _) (by omega) p3 _) (by omega) p4 _) (i := 9) (by decide) rfl _), fun q T i hq hT hT7 hi => h3 q T i (by rw [ruW_11] at hq; exact hq) hT hT7 hi⟩, ((((((Fr.rf.sI rfl).sI rfl).sI rfl).sI rfl).sI rfl).sI rfl)⟩
  simp only [vld] at hv ⊢
  rw [ruW_8, ruW_9, ruW_12, ruW_13] at hv
  omega

theorem c51 (hI : TI w ta M) (hb : WB w) (h8 : w 12 < 6) {a b c : Nat} : SC (d + 1) 51 [.ref 512, .int (iz a), .int (iz b), .int (iz c)] M (fun vs N => vs = [.int (nI (w 12 + 1))] ∧ TI (bkW w a b c) ta N ∧ Fr aTold M N) := by
  have hc : M.1 512 14 = nI (w 12) := (hI.tr hb).1.2.2.2.1
  refine sC (by decide) rfl (go_in (e51_0 ?_))
  obtain ⟨h1, h2, h3⟩ := hI
  have p0 : pl (57 + 3 * w 12) = (33807, w 12 * 3) := pl_57 (w 12) h8 0 (by decide)
  have p1 : pl (58 + 3 * w 12) = (33807, w 12 * 3 + 1) := by have h := pl_57 (w 12) h8 1 (by decide); rw [show 57 + 3 * w 12 + 1 = 58 + 3 * w 12 by omega] at h; exact h
  have p2 : pl (59 + 3 * w 12) = (33807, w 12 * 3 + 2) := by have h := pl_57 (w 12) h8 2 (by decide); rw [show 57 + 3 * w 12 + 2 = 59 + 3 * w 12 by omega] at h; exact h
  simp (disch := omega) only [sI_k, sI_e, hc, nI_mul, nI_add, nI_c, nI_sub, Nat.add_sub_cancel]
  refine ⟨nI_in2 (by omega) (by decide), nI_in2 (by omega) (by decide), nI_in2 (by omega) (by decide), rfl, rfl, ⟨TSV.le (TSV_c (TSV_c (TSV_c (TSV_c h1 (by omega) p0 (v := a) (by rw [wz_no (shf_no (by omega))])) (by omega) p1 (v := b) (by rw [wz_no (shf_no (by omega))])) (by omega) p2 (v := c) (by rw [wz_no (shf_no (by omega))])) (i := 12) (by decide) rfl (v := w 12 + 1) (iz_n _)) fun i hi hv => ?_, (TZE_c (TZE_c (TZE_c (TZE_c h2 (by omega) p0 _) (by omega) p1 _) (by omega) p2 _) (i := 12) (by decide) rfl _), fun q T i hq hT hT7 hi => h3 q T i (by rw [bkW_11] at hq; exact hq) hT hT7 hi⟩, ((((Fr.rf.sI rfl).sI rfl).sI rfl).sI rfl)⟩
  simp only [vld] at hv ⊢
  rw [bkW_8, bkW_9, bkW_12, bkW_13] at hv
  omega

end TF
