/-! Numbers bettered all at once: less than five hundred turns. -/
theorem anB_ex {p : Nat → Bool} : ∀ {n}, anB p n = true → ∃ k, k < n ∧ p k = true
  | 0, h => by cases h
  | n + 1, h => by
    cases h1 : p n with
    | true => exact ⟨n, by omega, h1⟩
    | false =>
      cases h2 : anB p n with
      | true =>
        obtain ⟨k, hk, hp⟩ := anB_ex h2
        exact ⟨k, by omega, hp⟩
      | false =>
        have : anB p (n + 1) = false := anB_f fun m hm => by
          by_cases e : m = n
          · subst e; exact h1
          · cases h3 : p m with
            | false => rfl
            | true => rw [anB_t h3 (show m < n by omega)] at h2; cases h2
        rw [this] at h
        cases h
theorem pos_mul {e X : Int} (he : 0 < e) (h : 0 < e * X) : 0 < X := Int.lt_of_mul_lt_mul_left (a := e) (b := 0) (by rw [Int.mul_zero]; exact h) (Int.le_of_lt he)
section TN
variable {y : Nat → Nat} {k0 : Int} {p q : Nat} {r : Nat → Nat → Int} {lo : Nat → Nat → Nat} {K : Nat}
theorem uY_bd3 (hb : YB y k0) (hpq : p < q) (hq : q ≤ 5) (lo : Nat → Nat) {pay : Nat → Int} (hX : ∀ i, i < y 0 + 1 → bd 7344 (pay i)) {l : Nat} (hl : l < y 0 + 1) : bd 3760128000000000 (uY y p q lo pay l) := by
  obtain ⟨hM, hR⟩ := RY_MM hb hpq lo
  obtain ⟨d1, d2⟩ := dY_bd hb hpq hq lo
  obtain ⟨e1, e2⟩ := RY_20 hb hpq hq
  have h := MM_bd hM (u := uY y p q lo pay) (V := 25600000000 * (7344 * 20)) (R := 1) (by omega) hR (by omega) (fun i hi => by
    show bd _ (sm (fun j => RY y p q lo i j * crm (RY y p q lo) (y 0 + 1) (fun i => pay i * ((q : Int) * (y 6 : Int))) j) (y 0 + 1))
    rw [cramer_n _ _ _ hi]
    exact bd_mul ⟨by unfold dY at d1; omega, d2⟩ (bd_mul (hX i hi) ⟨by omega, e2⟩)) l hl
  exact ⟨by omega, by omega⟩
theorem uC_bd (hb : YB y k0) (hpq : p < q) (hq : q ≤ 5) (hr : ∀ l k, l ≤ y 0 → k < K → bd 7344 (r l k)) {c : Nat → Nat} (hc : ∀ l, c l < K) {l : Nat} (hl : l ≤ y 0) : bd 3760128000000000 (uC y p q r lo c l) :=
  uY_bd3 hb hpq hq _ (fun i hi => hr i (c i) (by omega) (hc i)) (by omega)
theorem four5 {p q : Nat} (hpq : p < q) (hq : q ≤ 5) {a b : Int} (hb : 0 ≤ b) (h : (q : Int) * a ≤ (p : Int) * b) : 5 * a ≤ 4 * b := by
  have h2 : (5 * (p : Int)) * b ≤ (4 * (q : Int)) * b := Int.mul_le_mul_of_nonneg_right (by omega) hb
  have e1 : (5 * (p : Int)) * b = 5 * ((p : Int) * b) := by grind
  have e2 : (4 * (q : Int)) * b = (q : Int) * (4 * b) := by grind
  have e3 : (q : Int) * (5 * a) = 5 * ((q : Int) * a) := by grind
  refine Int.le_of_mul_le_mul_left (a := (q : Int)) ?_ (by omega)
  omega
theorem x_con (hb : YB y k0) (hpq : p < q) (hq : q ≤ 5) {cs c : Nat → Nat} (hcs : ∀ l, cs l < K) {F G C : Int} (hF : 0 ≤ F) (hG : 0 ≤ G) (hC : 0 ≤ C) (h : ∀ j, j ≤ y 0 → xC y p q r lo cs c j * F ≤ G * (C * (dC y p q lo c * dC y p q lo cs))) {l : Nat} (hl : l ≤ y 0) : xC y p q r lo cs (nxC y p q r lo K c) l * (5 * F) ≤ (4 * G) * (C * (dC y p q lo (nxC y p q r lo K c) * dC y p q lo cs)) := by
  have hs := x_step hb hpq hq (r := r) (lo := lo) (c := c) hcs hl
  have hd := (dY_bd hb hpq hq (loC lo c)).1
  have hd' := (dY_bd hb hpq hq (loC lo (nxC y p q r lo K c))).1
  have hds := (dY_bd hb hpq hq (loC lo cs)).1
  have h6 := hb.2.2.2.1
  have hA : aws y (xC y p q r lo cs c) (lo l (cs l)) 4 * F ≤ (G * (C * (dC y p q lo c * dC y p q lo cs))) * (y 6 : Int) := by
    have h0 := aws_mono y (R := fun j => F * xC y p q r lo cs c j + 0 * xC y p q r lo cs c j) (S := fun _ => G * (C * (dC y p q lo c * dC y p q lo cs))) (fun j hj => by
      have := h j hj
      show F * xC y p q r lo cs c j + 0 * xC y p q r lo cs c j ≤ _
      rw [Int.zero_mul, Int.add_zero, Int.mul_comm]
      exact this) (lo l (cs l)) 4
    rw [aws_con hb, aws_lin, Int.zero_mul, Int.add_zero, Int.mul_comm] at h0
    exact h0
  have h1 := Int.mul_le_mul_of_nonneg_right hs hF
  have h2 := Int.mul_le_mul_of_nonneg_left hA (show 0 ≤ dC y p q lo (nxC y p q r lo K c) * (p : Int) from Int.mul_nonneg (Int.le_of_lt hd') (Int.natCast_nonneg p))
  have hb0 : 0 ≤ G * (C * (dC y p q lo (nxC y p q r lo K c) * dC y p q lo cs)) := Int.mul_nonneg hG (Int.mul_nonneg hC (Int.mul_nonneg (Int.le_of_lt hd') (Int.le_of_lt hds)))
  have hdy : 0 < dC y p q lo c * (y 6 : Int) := Int.mul_pos hd (by omega)
  generalize aws y (xC y p q r lo cs c) (lo l (cs l)) 4 = A at h1 h2
  generalize xC y p q r lo cs (nxC y p q r lo K c) l = X at h1 ⊢
  generalize dC y p q lo (nxC y p q r lo K c) = D' at h1 h2 hb0 ⊢
  generalize dC y p q lo c = D at h1 h2 hdy
  generalize dC y p q lo cs = Ds at h2 hb0 ⊢
  generalize (y 6 : Int) = e at h1 h2 hdy
  have h3 : (q : Int) * (X * F) ≤ (p : Int) * (G * (C * (D' * Ds))) := by
    refine Int.le_of_mul_le_mul_left (a := D * e) ?_ hdy
    have e1 : D * e * ((q : Int) * (X * F)) = (q : Int) * e * D * X * F := by grind
    have e2 : D * e * ((p : Int) * (G * (C * (D' * Ds)))) = D' * (p : Int) * (G * (C * (D * Ds)) * e) := by grind
    have e3 : D' * (p : Int) * A * F = D' * (p : Int) * (A * F) := by grind
    rw [e1, e2]
    rw [e3] at h1
    exact Int.le_trans h1 h2
  have h4 := four5 hpq hq hb0 h3
  have e4 : X * (5 * F) = 5 * (X * F) := by grind
  have e5 : 4 * G * (C * (D' * Ds)) = 4 * (G * (C * (D' * Ds))) := by grind
  rw [e4, e5]
  exact h4
theorem x_0 {D Ds u us : Int} (hD : 1 ≤ D) (hDs : 1 ≤ Ds) (hu : bd 3760128000000000 u) (hus : bd 3760128000000000 us) : us * D - u * Ds ≤ 7520256000000000 * (D * Ds) := by
  have h1 := Int.mul_le_mul_of_nonneg_right hus.2 (show 0 ≤ D by omega)
  have h2 := Int.mul_le_mul_of_nonneg_right (show -u ≤ 3760128000000000 by have := hu.1; omega) (show 0 ≤ Ds by omega)
  have h3 := Int.mul_le_mul_of_nonneg_left hDs (show 0 ≤ D by omega)
  have h4 := Int.mul_le_mul_of_nonneg_right hD (show 0 ≤ Ds by omega)
  have e : -u * Ds = -(u * Ds) := Int.neg_mul _ _
  omega
theorem x_n (hb : YB y k0) (hpq : p < q) (hq : q ≤ 5) (hK : 0 < K) (hr : ∀ l k, l ≤ y 0 → k < K → bd 7344 (r l k)) {cs : Nat → Nat} (hcs : ∀ l, cs l < K) : ∀ n : Nat, ∀ j, j ≤ y 0 → xC y p q r lo cs (itC y p q r lo K n) j * (5 : Int) ^ n ≤ (4 : Int) ^ n * (7520256000000000 * (dC y p q lo (itC y p q r lo K n) * dC y p q lo cs))
  | 0, j, hj => by
    rw [Int.pow_zero, Int.pow_zero, Int.mul_one, Int.one_mul]
    have hd := (dY_bd hb hpq hq (loC lo (itC y p q r lo K 0))).1
    have hds := (dY_bd hb hpq hq (loC lo cs)).1
    have hu := uC_bd hb hpq hq (lo := lo) hr (itC_lt (y := y) (p := p) (q := q) (r := r) (lo := lo) hK 0) hj
    have hus := uC_bd hb hpq hq (lo := lo) hr hcs hj
    exact x_0 (by unfold dC; omega) (by unfold dC; omega) hu hus
  | n + 1, j, hj => by
    have h := x_con hb hpq hq (r := r) (lo := lo) (K := K) (F := (5 : Int) ^ n) (G := (4 : Int) ^ n) hcs (Int.le_of_lt (Int.pow_pos (show (0 : Int) < 5 by decide))) (Int.le_of_lt (Int.pow_pos (show (0 : Int) < 4 by decide))) (show (0 : Int) ≤ 7520256000000000 by decide) (x_n hb hpq hq hK hr hcs n) hj
    rw [Int.pow_succ, Int.pow_succ, Int.mul_comm ((5 : Int) ^ n) 5, Int.mul_comm ((4 : Int) ^ n) 4]
    exact h
theorem num499 : (4 : Int) ^ 499 * (7520256000000000 * (25600000000 * 25600000000)) < (5 : Int) ^ 499 := by decide +kernel
theorem turns (hb : YB y k0) (hpq : p < q) (hq : q ≤ 5) (hK : 0 < K) (hr : ∀ l k, l ≤ y 0 → k < K → bd 7344 (r l k)) : imC y p q r lo K (itC y p q r lo K 499) = false := by
  cases him : imC y p q r lo K (itC y p q r lo K 499) with
  | false => rfl
  | true =>
    exfalso
    obtain ⟨l, hl, hm⟩ := anB_ex him
    have hl : l ≤ y 0 := by omega
    have hit := itC_lt (y := y) (p := p) (q := q) (r := r) (lo := lo) (K := K) hK
    have hx := x_n hb hpq hq hK hr (lo := lo) (hit 500) 499 l hl
    have hs := step_eq hb (p := p) (q := q) (r := r) (lo := lo) (c := itC y p q r lo K 499) (c' := itC y p q r lo K 500) hl
    have ho : owC y p q r lo (itC y p q r lo K 499) l < vC y p q r lo (itC y p q r lo K 499) l (itC y p q r lo K 500 l) := (nxC_own hl).2 hm
    have hz := z_pos hb hpq hq (r := r) (lo := lo) (c := itC y p q r lo K 499) (c' := itC y p q r lo K 500) fun l hl => (nxC_own hl).1
    have hA := aws_mono y (R := fun _ => 0) hz (lo l (itC y p q r lo K 500 l)) 4
    rw [aws_con hb, Int.zero_mul] at hA
    have hd := dY_bd hb hpq hq (loC lo (itC y p q r lo K 499))
    have hds := dY_bd hb hpq hq (loC lo (itC y p q r lo K 500))
    have he := RY_20 hb hpq hq
    have hpA := Int.mul_nonneg (Int.natCast_nonneg p) hA
    have e1 : xC y p q r lo (itC y p q r lo K 500) (itC y p q r lo K 499) l = uC y p q r lo (itC y p q r lo K 500) l * dC y p q lo (itC y p q r lo K 499) - uC y p q r lo (itC y p q r lo K 499) l * dC y p q lo (itC y p q r lo K 500) := rfl
    unfold owC at ho
    have h1 : 1 ≤ xC y p q r lo (itC y p q r lo K 500) (itC y p q r lo K 499) l := by
      rw [e1]
      have hD : 0 < dC y p q lo (itC y p q r lo K 500) := hds.1
      generalize aws y (fun j => dC y p q lo (itC y p q r lo K 499) * uC y p q r lo (itC y p q r lo K 500) j + (-dC y p q lo (itC y p q r lo K 500)) * uC y p q r lo (itC y p q r lo K 499) j) (lo l (itC y p q r lo K 500 l)) 4 = A at hs hpA
      generalize vC y p q r lo (itC y p q r lo K 499) l (itC y p q r lo K 500 l) = v at hs ho
      generalize uC y p q r lo (itC y p q r lo K 500) l = u' at hs ⊢
      generalize uC y p q r lo (itC y p q r lo K 499) l = u at hs ho ⊢
      generalize dC y p q lo (itC y p q r lo K 500) = D' at hs hD ⊢
      generalize dC y p q lo (itC y p q r lo K 499) = D at hs ⊢
      have he0 := he.1
      generalize (q : Int) * (y 6 : Int) = e at hs ho he0
      have h2 := Int.mul_pos hD (show 0 < v - u * e by omega)
      have e3 : e * (u' * D - u * D') = D' * (v - u * e) + (p : Int) * A := by grind
      have h3 : 0 < e * (u' * D - u * D') := by omega
      exact pos_mul he0 h3
    have hn := num499
    have h5 : (5 : Int) ^ 499 ≤ xC y p q r lo (itC y p q r lo K 500) (itC y p q r lo K 499) l * (5 : Int) ^ 499 := by
      have := Int.mul_le_mul_of_nonneg_right h1 (show (0 : Int) ≤ 5 ^ 499 from Int.le_of_lt (Int.pow_pos (show (0 : Int) < 5 by decide)))
      rw [Int.one_mul] at this
      exact this
    have h6 : dC y p q lo (itC y p q r lo K 499) * dC y p q lo (itC y p q r lo K 500) ≤ 25600000000 * 25600000000 := Int.mul_le_mul hd.2 hds.2 (Int.le_of_lt hds.1) (by decide)
    have h7 := Int.mul_le_mul_of_nonneg_left (Int.mul_le_mul_of_nonneg_left h6 (show (0 : Int) ≤ 7520256000000000 by decide)) (show (0 : Int) ≤ 4 ^ 499 from Int.le_of_lt (Int.pow_pos (show (0 : Int) < 4 by decide)))
    exact absurd (Int.lt_of_le_of_lt (Int.le_trans (Int.le_trans h5 hx) h7) hn) (Int.lt_irrefl _)
def tN (y : Nat → Nat) (p q : Nat) (r : Nat → Nat → Int) (lo : Nat → Nat → Nat) (K : Nat) : Nat := fa_first (fun n => !imC y p q r lo K (itC y p q r lo K n)) 500
theorem tN_lt (hb : YB y k0) (hpq : p < q) (hq : q ≤ 5) (hK : 0 < K) (hr : ∀ l k, l ≤ y 0 → k < K → bd 7344 (r l k)) : tN y p q r lo K < 500 := by
  have h1 := fa_first_le (fun n => !imC y p q r lo K (itC y p q r lo K n)) 500
  have h2 := turns hb hpq hq hK (lo := lo) hr
  by_cases h : tN y p q r lo K = 500
  · have h3 := fa_first_no (fun n => !imC y p q r lo K (itC y p q r lo K n)) 500 499 (by unfold tN at h; omega)
    rw [h2] at h3
    cases h3
  · unfold tN at h ⊢
    omega
theorem tN_im (hb : YB y k0) (hpq : p < q) (hq : q ≤ 5) (hK : 0 < K) (hr : ∀ l k, l ≤ y 0 → k < K → bd 7344 (r l k)) : imC y p q r lo K (itC y p q r lo K (tN y p q r lo K)) = false := by
  have h := fa_first_yes (fun n => !imC y p q r lo K (itC y p q r lo K n)) 500 (tN_lt hb hpq hq hK (lo := lo) hr)
  have h2 : (!imC y p q r lo K (itC y p q r lo K (tN y p q r lo K))) = true := h
  cases h3 : imC y p q r lo K (itC y p q r lo K (tN y p q r lo K)) with
  | false => rfl
  | true => rw [h3] at h2; cases h2
theorem tN_no {m : Nat} (h : m < tN y p q r lo K) : imC y p q r lo K (itC y p q r lo K m) = true := by
  have h1 : (!imC y p q r lo K (itC y p q r lo K m)) = false := fa_first_no (fun n => !imC y p q r lo K (itC y p q r lo K n)) 500 m h
  cases h3 : imC y p q r lo K (itC y p q r lo K m) with
  | true => rfl
  | false => rw [h3] at h1; cases h1
/-- the numbers that were worked out last; the answers -/
def fiC (y : Nat → Nat) (p q : Nat) (r : Nat → Nat → Int) (lo : Nat → Nat → Nat) (K : Nat) : Nat → Nat := itC y p q r lo K (tN y p q r lo K)
def anC (y : Nat → Nat) (p q : Nat) (r : Nat → Nat → Int) (lo : Nat → Nat → Nat) (K l : Nat) : Nat := bst (vC y p q r lo (fiC y p q r lo K) l) K
theorem anC_own (hb : YB y k0) (hpq : p < q) (hq : q ≤ 5) (hK : 0 < K) (hr : ∀ l k, l ≤ y 0 → k < K → bd 7344 (r l k)) {l : Nat} (hl : l ≤ y 0) : vC y p q r lo (fiC y p q r lo K) l (anC y p q r lo K l) = owC y p q r lo (fiC y p q r lo K) l := by
  have h1 := tN_im hb hpq hq hK (lo := lo) hr
  have h2 := bst_max (vC y p q r lo (fiC y p q r lo K) l) K _ (itC_lt (y := y) (p := p) (q := q) (r := r) (lo := lo) (K := K) hK (tN y p q r lo K) l)
  have h3 := bellman (p := p) (q := q) (r := r) (lo := lo) (c := fiC y p q r lo K) hl
  have h4 : ¬ owC y p q r lo (fiC y p q r lo K) l < vC y p q r lo (fiC y p q r lo K) l (bst (vC y p q r lo (fiC y p q r lo K) l) K) := fun hlt => by
    have : imC y p q r lo K (fiC y p q r lo K) = true := anB_t (m := l) (decide_eq_true hlt) (by omega)
    unfold fiC at this
    rw [h1] at this
    cases this
  unfold anC
  have e : vC y p q r lo (fiC y p q r lo K) l (fiC y p q r lo K l) = vC y p q r lo (fiC y p q r lo K) l (itC y p q r lo K (tN y p q r lo K) l) := rfl
  omega
end TN
