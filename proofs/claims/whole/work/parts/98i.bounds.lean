/-! The judge: the class's, how great; followed. -/
section BY
variable {y : Nat → Nat} {k : Int} {p q : Nat}
theorem RY_MM (hb : YB y k) (hpq : p < q) (lo : Nat → Nat) : MM (RY y p q lo) (y 0 + 1) ∧ ∀ i, i < y 0 + 1 → 1 ≤ sm (RY y p q lo i) (y 0 + 1) := by
  obtain ⟨h1, h2⟩ := Wm_MM hb (lo := lo) hpq
  have h6 := hb.2.2.2.1
  refine ⟨h1, fun i hi => Int.le_trans ?_ (h2 i hi)⟩
  have : 0 < (y 6 : Int) * ((q : Int) - (p : Int)) := Int.mul_pos (by omega) (by omega)
  exact this
theorem RY_20 (hb : YB y k) (hpq : p < q) (hq : q ≤ 5) : 0 < (q : Int) * (y 6 : Int) ∧ (q : Int) * (y 6 : Int) ≤ 20 := by
  have h6 := hb.2.2.2
  refine ⟨Int.mul_pos (by omega) (by omega), ?_⟩
  exact (bd_mul (bd_n (show q ≤ 5 by omega)) (bd_n (show y 6 ≤ 4 by omega))).2
theorem dY_bd (hb : YB y k) (hpq : p < q) (hq : q ≤ 5) (lo : Nat → Nat) : 0 < dY y p q lo ∧ dY y p q lo ≤ 25600000000 := by
  have h0' := hb.1.2.1
  obtain ⟨h0, h1⟩ := RY_20 hb hpq hq
  have h2 := (RY_MM hb hpq lo).1
  refine ⟨MM_det _ _ h2, Int.le_trans (MM_le (d := (q : Int) * (y 6 : Int)) (Int.le_of_lt h0) _ _ h2 fun i hi => ?_) (pow20 h0 h1 (by omega))⟩
  unfold RY AX pW
  rw [dl_s, Int.one_mul]
  have : 0 ≤ (p : Int) * Wm y lo i i := Int.mul_nonneg (Int.natCast_nonneg _) (Int.natCast_nonneg _)
  omega
theorem uY_bd (hb : YB y k) (hpq : p < q) (hq : q ≤ 5) (lo : Nat → Nat) {pay : Nat → Int} (hX : ∀ i, i < y 0 + 1 → bd 2448 (pay i)) {l : Nat} (hl : l < y 0 + 1) : bd 1253376000000000 (uY y p q lo pay l) := by
  obtain ⟨hM, hR⟩ := RY_MM hb hpq lo
  obtain ⟨d1, d2⟩ := dY_bd hb hpq hq lo
  obtain ⟨e1, e2⟩ := RY_20 hb hpq hq
  have h := MM_bd hM (u := uY y p q lo pay) (V := 25600000000 * (2448 * 20)) (R := 1) (by omega) hR (by omega) (fun i hi => by
    show bd _ (sm (fun j => RY y p q lo i j * crm (RY y p q lo) (y 0 + 1) (fun i => pay i * ((q : Int) * (y 6 : Int))) j) (y 0 + 1))
    rw [cramer_n _ _ _ hi]
    exact bd_mul ⟨by unfold dY at d1; omega, d2⟩ (bd_mul (hX i hi) ⟨by omega, e2⟩)) l hl
  exact ⟨by omega, by omega⟩
end BY
/-- a chain that followed -/
def FOL (o : Nat) (y : Nat → Nat) (k : Int) (fo : Nat → Nat → Nat → Int) (wa : Nat → Nat → Nat → Nat) (N : Mm) : Prop := LOC o y (loY y k (wa o)) N ∧ (∀ f, f < y 2 → PAY o f y (paY y fo (wa o) f) N) ∧ ∃ C B, FLP (Wm y (loY y k (wa o))) (y 0 + 1) C B ∧ COE o y C N
/-- the class's year at hand -/
def YC (y : Nat → Nat) (k : Int) (fo : Nat → Nat → Nat → Int) (wa : Nat → Nat → Nat → Nat) (M : Mm) : Prop := YR y k M ∧ FO y 41992 fo M ∧ WA y wa M
theorem YC.of {y : Nat → Nat} {k : Int} {fo : Nat → Nat → Nat → Int} {wa : Nat → Nat → Nat → Nat} {P : Nat → Nat → Bool} {M N : Mm} (h : YC y k fo wa M) (hF : Fr P M N) (h0 : ∀ j, j < 7 → P 640 j = false) (h1 : ∀ j, P 41991 j = false) (h2 : ∀ j, P 41992 j = false) (h3 : ∀ j, P 41994 j = false) : YC y k fo wa N := ⟨h.1.of hF h0 h1, h.2.1.of hF h2, h.2.2.of hF h3⟩
section FB
variable {d : Nat} {M : Mm} {y : Nat → Nat} {k : Int} {fo : Nat → Nat → Nat → Int} {wa : Nat → Nat → Nat → Nat}
theorem FOL.of0 {P : Nat → Nat → Bool} {N : Mm} (h : FOL 0 y k fo wa M) (hF : Fr P M N) (h1 : ∀ j, P 1025 j = false) (h2 : ∀ j, P 1026 j = false) (h3 : ∀ j, P 1027 j = false) : FOL 0 y k fo wa N := by
  obtain ⟨a, b, C, B, c, e⟩ := h
  exact ⟨fun l hl => by rw [(hF (1025 + 64 * 0) l (h1 l)).1]; exact a l hl, fun f hf l hl => by rw [(hF (1026 + 64 * 0) _ (h2 _)).1]; exact b f hf l hl, C, B, c, fun m hm => by rw [(hF (1027 + 64 * 0) m (h3 m)).2.1]; exact e m hm⟩
theorem FOL.of1 {P : Nat → Nat → Bool} {N : Mm} (h : FOL 1 y k fo wa M) (hF : Fr P M N) (h1 : ∀ j, P 1089 j = false) (h2 : ∀ j, P 1090 j = false) (h3 : ∀ j, P 1091 j = false) : FOL 1 y k fo wa N := by
  obtain ⟨a, b, C, B, c, e⟩ := h
  exact ⟨fun l hl => by rw [(hF (1025 + 64 * 1) l (h1 l)).1]; exact a l hl, fun f hf l hl => by rw [(hF (1026 + 64 * 1) _ (h2 _)).1]; exact b f hf l hl, C, B, c, fun m hm => by rw [(hF (1027 + 64 * 1) m (h3 m)).2.1]; exact e m hm⟩
theorem c15 (hY : YC y k fo wa M) (hb : YB y k) (hwa3 : ∀ b l f, wa b l f ≤ 3) : SC (d + 6) 15 [.ref 128] M (fun vs N => vs = [] ∧ Fr aCl M N ∧ YC y k fo wa N ∧ FOL 0 y k fo wa N ∧ FOL 1 y k fo wa N) := by
  refine sC (by decide) rfl (go_in (e15_0 (useC (c0_0 (d := d) hY.1 hb hY.2.2 hwa3 hY.2.1 (b := 0) (by omega)) fun vs N h => ?_)))
  obtain ⟨rfl, hF, h1⟩ := h
  have hY1 := hY.of hF aFo_640_0 (fun j => rfl) (fun j => rfl) (fun j => rfl)
  refine e15_8 (useC (c0_1 (d := d) hY1.1 hb hY1.2.2 hwa3 hY1.2.1 (b := 1) (by omega)) fun vs N2 h => ?_)
  obtain ⟨rfl, hF2, h2⟩ := h
  exact e15_16 ⟨rfl, rfl, (hF.up (aFo_cl (by omega))).tr (hF2.up (aFo_cl (by omega))), hY1.of hF2 aFo_640_1 (fun j => rfl) (fun j => rfl) (fun j => rfl), FOL.of0 h1 hF2 (fun j => rfl) (fun j => rfl) (fun j => rfl), h2⟩
end FB
