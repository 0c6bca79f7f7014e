/-! Who breaks first when years count less. -/
def wp (i : Nat) : Nat := weiL.getD (2 * i) 0
def wq (i : Nat) : Nat := weiL.getD (2 * i + 1) 0
theorem wpq : ∀ i, i < 9 → 1 ≤ wp i ∧ wp i < wq i ∧ wq i ≤ 5 := by decide
theorem rm10 : ∀ a, a < 1001 → nI a - nI a / nI 10 * nI 10 = nI (a % 10) := by decide +kernel
def wkJ (w : Nat → Nat) (ta : Nat → Nat → Nat → Nat) (p q : Nat) : Int := jdV (w 0) (w 8) (gYB (yW w (w 10)) (kW w) p q (foW w (w 10) (cstW w)) (waW w ta))
def wkV (w : Nat → Nat) (ta : Nat → Nat → Nat → Nat) : Nat → Nat → Int
  | 0, _ => -1
  | k + 1, i => if wkJ w ta (wp i) (wq i) < 0 then wkV w ta k (i + 1) else ((100 * wp i + 10 * wq i + (wkJ w ta (wp i) (wq i)).toNat % 10 : Nat) : Int)
theorem wk_sum (p q : Nat) {j : Int} (h0 : 0 ≤ j) (h : j ≤ 1000) : (nI 100 * nI p + nI 10 * nI q) + (iz j - iz j / nI 10 * nI 10) = iz ((100 * p + 10 * q + j.toNat % 10 : Nat) : Int) := by
  obtain ⟨n, rfl⟩ : ∃ n : Nat, j = n := ⟨j.toNat, by omega⟩
  rw [iz_nn, iz_nn, rm10 n (by omega), nI_mul, nI_mul, nI_add, nI_add, Int.toNat_natCast]
section WK
variable {d : Nat} {M : Mm} {w : Nat → Nat} {ta : Nat → Nat → Nat → Nat}
theorem c102 (hT : TR 512 w ta M) (hb : WB w) : SC (d + 8) 102 [.ref 704] M (fun vs N => vs = [.int (iz (wkV w ta 9 0))] ∧ Fr aCl M N) := by
  have w10 : w 10 < w 9 := hb.2.2.2.1.2.2.1
  have hyB := yB_of hb w10
  have hw3 : ∀ b l f, waW w ta b l f ≤ 3 := fun b l f => wbd_le
  have hfo : ∀ f l n, f < yW w (w 10) 2 → l ≤ yW w (w 10) 0 → n < 4 → bd 2448 (foW w (w 10) (cstW w) f l n) := fun f l n h1 h2 h3 => foW_bd hb w10 h1 (show l ≤ 7 by have : yW w (w 10) 0 = w 0 := rfl; have := (wb_w hb).1; omega) (show n ≤ 3 by omega)
  refine sC (by decide) rfl (go_in (e102_0 (useC (upC (c61 (d := d) hT hb) (by omega)) fun vs N1 h => ?_)))
  obtain ⟨rfl, hF1, hY1⟩ := h
  have hYC : YC (yW w (w 10)) (kW w) (foW w (w 10) (cstW w)) (waW w ta) N1 := ⟨hY1.1, hY1.2.1, hY1.2.2.2⟩
  refine e102_11 (useC (upC (c15 (d := d) hYC hyB hw3) (by omega)) fun vs N2 h => ?_)
  obtain ⟨rfl, hF2, hY2, h0, h1⟩ := h
  refine e102_18 ?_
  have loop : ∀ k i (o2 : Option Value) N', i + k = 9 → Fr aCl M N' → YC (yW w (w 10)) (kW w) (foW w (w 10) (cstW w)) (waW w ta) N' → FOL 0 (yW w (w 10)) (kW w) (foW w (w 10) (cstW w)) (waW w ta) N' → FOL 1 (yW w (w 10)) (kW w) (foW w (w 10) (cstW w)) (waW w ta) N' → WM (d + 7) 102 (fun vs N => vs = [.int (iz (wkV w ta k i))] ∧ Fr aCl M N) 20 [some (.ref 704), some (.int (nI (2 * i))), o2] [] N' := by
    intro k
    induction k with
    | zero =>
      intro i o2 N' hi hF _ _ _
      have hi : i = 9 := by omega
      subst hi
      refine go_in (e102_20 ?_)
      rw [nI_add]
      exact br_t (nI_le (by decide) (by decide)) (go_in (e102_86 ⟨rfl, by rw [nI_neg1]; rfl, hF⟩))
    | succ k ih =>
      intro i o2 N' hi hF hY h0 h1
      refine go_in (e102_20 ?_)
      rw [nI_add]
      refine br_f (nI_ge (by omega) (by decide)) ⟨vp_in_nI (by omega) (by decide), vp_in_nI (by omega) (by decide), ?_⟩
      rw [nI_c (by omega), nI_c (by omega)]
      have hpq := wpq i (by omega)
      refine useC (c16 (d := d) (p := wp i) (q := wq i) (fo := foW w (w 10) (cstW w)) (wa := waW w ta) hyB hpq.2.1 hpq.2.2 hw3 hfo hY h0 h1) fun vs N4 h => ?_
      obtain ⟨rfl, hF4, hY4, h04, h14⟩ := h
      have hj := jdV_bd (L := w 0) (F := w 8) (g := gYB (yW w (w 10)) (kW w) (wp i) (wq i) (foW w (w 10) (cstW w)) (waW w ta))
      have hi' : iz (wkJ w ta (wp i) (wq i)) = -(nI 1) ↔ wkJ w ta (wp i) (wq i) = -1 := by
        rw [nI_neg1]
        exact iz_eq ⟨by unfold wkJ; omega, by unfold wkJ; omega⟩ ⟨by omega, by omega⟩
      have hv : wkV w ta (k + 1) i = if wkJ w ta (wp i) (wq i) < 0 then wkV w ta k (i + 1) else ((100 * wp i + 10 * wq i + (wkJ w ta (wp i) (wq i)).toNat % 10 : Nat) : Int) := rfl
      have hj2 : -1 ≤ wkJ w ta (wp i) (wq i) ∧ wkJ w ta (wp i) (wq i) ≤ 1000 := hj
      refine e102_49 ⟨fun e => go_in (e102_80 ?_), fun e => ⟨vp_in_nI (by omega) (by decide), ?_, by decide, ?_⟩⟩
      · rw [hv, if_pos (by have := hi'.mp e; omega), show nI (2 * i) + Int32.ofInt 2 = nI (2 * (i + 1)) from nI_add (2 * i) 2]
        exact ih (i + 1) _ N4 (by omega) (hF.tr hF4) hY4 h04 h14
      · rw [nI_add]
        exact vp_in_nI (by omega) (by decide)
      · have hne : ¬ wkJ w ta (wp i) (wq i) < 0 := fun q => e (hi'.mpr (by omega))
        rw [nI_add, nI_c (by omega), nI_c (by omega), hv, if_neg hne]
        refine ⟨rfl, ?_, hF.tr hF4⟩
        congr 2
        exact wk_sum (wp i) (wq i) (j := wkJ w ta (wp i) (wq i)) (by omega) hj2.2
  exact loop 9 0 _ N2 (by omega) ((hF1.up aYr_cl).tr hF2) hY2 h0 h1
end WK
