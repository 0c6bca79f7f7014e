/-! The reference's weak. -/
def scI (lp lq y x : Nat) (s : Nat × Nat) : Nat × Nat := if lp * y ≤ x * lq ∨ x * s.2 ≤ s.1 * y then s else (x, y)
def scX (lp lq y : Nat) : Nat → Nat → Nat × Nat → Nat × Nat
  | 0, _, s => s
  | k + 1, x, s => scX lp lq y k (x + 1) (scI lp lq y x s)
def scY (lp lq : Nat) : Nat → Nat → Nat × Nat → Nat × Nat
  | 0, _, s => s
  | k + 1, y, s => scY lp lq k (y + 1) (scX lp lq y (y - 1) 1 s)
def scN (lp lq : Nat) : Nat × Nat := scY lp lq 4 2 (0, 1)
theorem scN_s : ∀ i, i < 8 → scN (wp i) (wq i) = (wp (i + 1), wq (i + 1)) := by decide
theorem scN_0 : scN 1 1 = (wp 0, wq 0) := by decide
theorem scN_8 : scN (wp 8) (wq 8) = (0, 1) := by decide
def wP (w : Nat → Nat) (p q i : Nat) : Nat := if i = 6 then p else if i = 7 then q else w i
theorem wP_v {w : Nat → Nat} {p q i : Nat} (h : i ≠ 6) (h2 : i ≠ 7) : wP w p q i = w i := by unfold wP; rw [if_neg h, if_neg h2]
theorem WB.pq {w : Nat → Nat} (hb : WB w) {p q : Nat} (h1 : 1 ≤ p) (h2 : p < q) (h3 : q ≤ 5) : WB (wP w p q) := by
  obtain ⟨a, ⟨b1, b2⟩, c, e, f, g, h, i, j⟩ := hb
  refine ⟨a, ⟨fun j hj => ?_, b2⟩, ⟨h1, h2, h3⟩, e, f, fun f hf => ?_, fun r hr => ?_, fun b hb => ?_, fun j' hj => ?_⟩
  · rw [wP_v (by omega) (by omega)]; exact b1 j hj
  · rw [wP_v (by omega) (by omega), wP_v (by omega) (by omega), wP_v (by omega) (by omega), wP_v (by omega) (by omega), wP_v (by omega) (by omega)]; exact g f hf
  · rw [wP_v (by omega) (by omega), wP_v (by omega) (by omega), wP_v (by omega) (by omega), wP_v (by omega) (by omega), wP_v (by omega) (by omega)]; exact h r hr
  · rw [wP_v (i := 57 + 3 * b) (by omega) (by omega), wP_v (i := 58 + 3 * b) (by omega) (by omega), wP_v (i := 59 + 3 * b) (by omega) (by omega)]; exact i b hb
  · rw [wP_v (i := 75 + j') (by omega) (by omega)]; exact j j' hj
theorem foW_pq (w : Nat → Nat) (p q r : Nat) : foW (wP w p q) r (cstW (wP w p q)) = foW w r (cstW w) := by
  funext f l n
  unfold foW plW brg cstW
  rw [wP_v (i := 16 + 5 * f + n) (by omega) (by omega), wP_v (i := 20 + 5 * f) (by omega) (by omega), wP_v (i := 32 + 5 * r + 0) (by omega) (by omega), wP_v (i := 32 + 5 * r + 2) (by omega) (by omega), wP_v (i := 32 + 5 * r + 3) (by omega) (by omega), wP_v (i := 32 + 5 * r + 4) (by omega) (by omega)]
  rfl
theorem waW_pq (w : Nat → Nat) (p q : Nat) (ta : Nat → Nat → Nat → Nat) : waW (wP w p q) ta = waW w ta := by
  funext b l f
  unfold waW
  rw [wP_v (i := 21 + 5 * f) (by omega) (by omega)]
  rfl
theorem yW_pq (w : Nat → Nat) (p q r : Nat) : ∀ i, i ≠ 4 → i ≠ 5 → yW (wP w p q) r i = yW w r i := fun i h4 h5 => by
  unfold yW
  rw [if_neg h4, if_neg h5, if_neg h4, if_neg h5, wP_v (i := 32 + 5 * r + 1) (by omega) (by omega)]
  rfl
section C45
variable {y y' : Nat → Nat} {k : Int}
theorem prt_45 (h : ∀ i, i ≠ 4 → i ≠ 5 → y' i = y i) (a b : Nat) : ∀ r, prt y' a b r = prt y a b r
  | 0 => rfl
  | r + 1 => by
    unfold prt
    rw [prt_45 h a b r, h 0 (by omega) (by omega), h (7 + r) (by omega) (by omega)]
theorem aws_45 (h : ∀ i, i ≠ 4 → i ≠ 5 → y' i = y i) (R : Nat → Int) (a : Nat) : ∀ r, aws y' R a r = aws y R a r
  | 0 => rfl
  | r + 1 => by
    unfold aws
    rw [aws_45 h R a r, h 0 (by omega) (by omega), h (7 + r) (by omega) (by omega)]
theorem lowS_45 (h : ∀ i, i ≠ 4 → i ≠ 5 → y' i = y i) (v : Nat → Nat) (l : Nat) : lowS y' k v l = lowS y k v l := by
  unfold lowS
  rw [h 3 (by omega) (by omega), h 2 (by omega) (by omega)]
theorem loY_45 (h : ∀ i, i ≠ 4 → i ≠ 5 → y' i = y i) (V : Nat → Nat → Nat) : loY y' k V = loY y k V := by
  funext l
  unfold loY
  rw [lowS_45 h]
theorem Wm_45 (h : ∀ i, i ≠ 4 → i ≠ 5 → y' i = y i) (lo : Nat → Nat) : Wm y' lo = Wm y lo := by
  funext i j
  unfold Wm
  rw [prt_45 h]
theorem dY_45 (h : ∀ i, i ≠ 4 → i ≠ 5 → y' i = y i) (p q : Nat) (lo : Nat → Nat) : dY y' p q lo = dY y p q lo := by
  unfold dY RY
  rw [Wm_45 h, h 6 (by omega) (by omega), h 0 (by omega) (by omega)]
theorem uY_45 (h : ∀ i, i ≠ 4 → i ≠ 5 → y' i = y i) (p q : Nat) (lo : Nat → Nat) (pay : Nat → Int) : uY y' p q lo pay = uY y p q lo pay := by
  funext l
  unfold uY RY
  rw [Wm_45 h, h 6 (by omega) (by omega), h 0 (by omega) (by omega)]
theorem paY_45 (h : ∀ i, i ≠ 4 → i ≠ 5 → y' i = y i) (fo : Nat → Nat → Nat → Int) (V : Nat → Nat → Nat) (f : Nat) : paY y' fo V f = paY y fo V f := by
  funext l
  unfold paY
  rw [h 3 (by omega) (by omega)]
theorem gYB_45 (h : ∀ i, i ≠ 4 → i ≠ 5 → y' i = y i) (p q : Nat) (fo : Nat → Nat → Nat → Int) (wa : Nat → Nat → Nat → Nat) : gYB y' k p q fo wa = gYB y k p q fo wa := by
  funext b f l
  unfold gYB
  congr 1
  funext n
  unfold eBY eXY eUY
  simp only [loY_45 h, dY_45 h, uY_45 h, paY_45 h, aws_45 h, lowS_45 h, h 3 (by omega) (by omega), h 6 (by omega) (by omega)]
end C45
theorem wkJ_pq (w : Nat → Nat) (ta : Nat → Nat → Nat → Nat) (p q : Nat) : jdV (wP w p q 0) (wP w p q 8) (gnP (wP w p q) (waW (wP w p q) ta)) = wkJ w ta p q := by
  rw [← gYB_gnP, waW_pq, show wP w p q 10 = w 10 from rfl, foW_pq, gYB_45 (yW_pq w p q (w 10))]
  rfl
