/-! Numbers bettered all at once: how long that may last. -/
theorem aws_lin (y : Nat → Nat) (a b : Int) (R S : Nat → Int) (low : Nat) : ∀ r, aws y (fun j => a * R j + b * S j) low r = a * aws y R low r + b * aws y S low r
  | 0 => by show (0 : Int) = a * 0 + b * 0; omega
  | r + 1 => by
    unfold aws
    rw [aws_lin y a b R S low r]
    grind
theorem aws_mono (y : Nat → Nat) {R S : Nat → Int} (h : ∀ j, j ≤ y 0 → R j ≤ S j) (low : Nat) : ∀ r, aws y R low r ≤ aws y S low r
  | 0 => Int.le_refl _
  | r + 1 => by
    have h1 := aws_mono y h low r
    have h2 := Int.mul_le_mul_of_nonneg_left (h (min (y 0) (low + r)) (Nat.min_le_left _ _)) (Int.natCast_nonneg (y (7 + r)))
    unfold aws
    omega
theorem aws_con {y : Nat → Nat} {k : Int} (hb : YB y k) (a : Int) (low : Nat) : aws y (fun _ => a) low 4 = a * (y 6 : Int) := by
  have h := hb.2.2.2.2.2
  have e : aws y (fun _ => a) low 4 = 0 + (y 7 : Int) * a + (y 8 : Int) * a + (y 9 : Int) * a + (y 10 : Int) * a := rfl
  rw [e, show (y 6 : Int) = (y 7 : Int) + (y 8 : Int) + (y 9 : Int) + (y 10 : Int) by omega]
  grind
theorem RY_sm (y : Nat → Nat) (p q : Nat) (lo : Nat → Nat) (R : Nat → Int) {i : Nat} (hi : i < y 0 + 1) : sm (fun j => RY y p q lo i j * R j) (y 0 + 1) = ((q : Int) * (y 6 : Int)) * R i - (p : Int) * aws y R (lo i) 4 := by
  rw [← Wm_sm R]
  have h1 : sm (fun j => dl i j * R j) (y 0 + 1) = R i := by rw [sm_dl, if_pos hi]
  have h2 : sm (fun j => RY y p q lo i j * R j) (y 0 + 1) = sm (fun j => ((q : Int) * (y 6 : Int)) * (dl i j * R j) + (-(p : Int)) * (Wm y lo i j * R j)) (y 0 + 1) := by
    refine sm_congr fun j _ => ?_
    show (-((p : Int) * Wm y lo i j) + dl i j * ((q : Int) * (y 6 : Int))) * R j = _
    grind
  rw [h2, sm_add, sm_mul, sm_mul, h1, Int.neg_mul]
  omega
theorem MM_nonneg {A : Nat → Nat → Int} {n : Nat} (h : MM A n) {z : Nat → Int} (hz : ∀ i, i < n → 0 ≤ sm (fun j => A i j * z j) n) : ∀ j, j < n → 0 ≤ z j := by
  intro j hj
  obtain ⟨m, hm, hmax⟩ := max_at (fun j => -z j) n (by omega)
  have := hmax j hj
  by_cases h0 : 0 < -z m
  · have h1 := MM_top h hm hmax h0
    have h2 : sm (fun j => A m j * -z j) n = -sm (fun j => A m j * z j) n := by
      rw [← sm_neg]
      exact sm_congr fun j _ => by grind
    have := hz m hm
    omega
  · omega
/-- the first of the greatest -/
def bst (g : Nat → Int) : Nat → Nat
  | 0 => 0
  | n + 1 => if g (bst g n) < g n then n else bst g n
theorem bst_lt (g : Nat → Int) : ∀ n, 0 < n → bst g n < n
  | 0, h => absurd h (Nat.lt_irrefl 0)
  | n + 1, _ => by
    unfold bst
    split
    · omega
    · by_cases h0 : n = 0
      · subst h0; show (0 : Nat) < 0 + 1; omega
      · have := bst_lt g n (by omega); omega
theorem bst_max (g : Nat → Int) : ∀ n k, k < n → g k ≤ g (bst g n)
  | 0, _, h => absurd h (Nat.not_lt_zero _)
  | n + 1, k, h => by
    unfold bst
    by_cases e : k = n
    · subst e
      split <;> omega
    · have := bst_max g n k (by omega)
      split <;> omega
theorem bst_first (g : Nat → Int) : ∀ n k, k < bst g n → g k < g (bst g n)
  | 0, _, h => absurd h (Nat.not_lt_zero _)
  | n + 1, k, h => by
    unfold bst at h ⊢
    split at h
    · rename_i h1
      rw [if_pos h1]
      have := bst_max g n k h
      omega
    · rename_i h1
      rw [if_neg h1]
      exact bst_first g n k h
section POL
variable (y : Nat → Nat) (p q : Nat) (r : Nat → Nat → Int) (lo : Nat → Nat → Nat) (K : Nat)
def loC (c : Nat → Nat) (l : Nat) : Nat := lo l (c l)
def pyC (c : Nat → Nat) (l : Nat) : Int := r l (c l)
def uC (c : Nat → Nat) (l : Nat) : Int := uY y p q (loC lo c) (pyC r c) l
def dC (c : Nat → Nat) : Int := dY y p q (loC lo c)
/-- what a way is worth at a level, going on by the numbers c -/
def vC (c : Nat → Nat) (l k : Nat) : Int := r l k * (dC y p q lo c * ((q : Int) * (y 6 : Int))) + (p : Int) * aws y (uC y p q r lo c) (lo l k) 4
def owC (c : Nat → Nat) (l : Nat) : Int := uC y p q r lo c l * ((q : Int) * (y 6 : Int))
def mrC (c : Nat → Nat) (l : Nat) : Bool := decide (owC y p q r lo c l < vC y p q r lo c l (bst (vC y p q r lo c l) K))
def nxC (c : Nat → Nat) (l : Nat) : Nat := if mrC y p q r lo K c l = true then bst (vC y p q r lo c l) K else c l
def imC (c : Nat → Nat) : Bool := anB (mrC y p q r lo K c) (y 0 + 1)
def itC : Nat → Nat → Nat
  | 0 => fun _ => 0
  | n + 1 => nxC y p q r lo K (itC n)
end POL
section POM
variable {y : Nat → Nat} {k0 : Int} {p q : Nat} {r : Nat → Nat → Int} {lo : Nat → Nat → Nat} {K : Nat}
theorem bellman {c : Nat → Nat} {l : Nat} (hl : l ≤ y 0) : owC y p q r lo c l = vC y p q r lo c l (c l) := by
  have h1 := cramer_n (RY y p q (loC lo c)) (y 0 + 1) (fun i => pyC r c i * ((q : Int) * (y 6 : Int))) (i := l) (by omega)
  have h2 := RY_sm y p q (loC lo c) (uC y p q r lo c) (i := l) (by omega)
  have h3 : sm (fun j => RY y p q (loC lo c) l j * uC y p q r lo c j) (y 0 + 1) = dC y p q lo c * (pyC r c l * ((q : Int) * (y 6 : Int))) := h1
  rw [h3] at h2
  unfold owC vC
  have e : pyC r c l = r l (c l) := rfl
  have e2 : loC lo c l = lo l (c l) := rfl
  rw [e, e2] at h2
  grind
theorem nxC_lt (hK : 0 < K) {c : Nat → Nat} (hc : ∀ l, c l < K) (l : Nat) : nxC y p q r lo K c l < K := by
  unfold nxC
  split
  · exact bst_lt _ _ hK
  · exact hc l
theorem itC_lt (hK : 0 < K) : ∀ n l, itC y p q r lo K n l < K
  | 0, _ => hK
  | n + 1, l => nxC_lt hK (itC_lt hK n) l
theorem nxC_own {c : Nat → Nat} {l : Nat} (hl : l ≤ y 0) : owC y p q r lo c l ≤ vC y p q r lo c l (nxC y p q r lo K c l) ∧ (mrC y p q r lo K c l = true → owC y p q r lo c l < vC y p q r lo c l (nxC y p q r lo K c l)) := by
  unfold nxC
  split
  · rename_i h
    have := of_decide_eq_true h
    exact ⟨by omega, fun _ => this⟩
  · rename_i h
    rw [bellman hl]
    exact ⟨Int.le_refl _, fun q => absurd q h⟩
theorem nxC_max {c : Nat → Nat} {l : Nat} (hl : l ≤ y 0) {k : Nat} (hk : k < K) : vC y p q r lo c l k ≤ vC y p q r lo c l (nxC y p q r lo K c l) := by
  have h1 := bst_max (vC y p q r lo c l) K k hk
  unfold nxC
  split
  · exact h1
  · rename_i h
    have h2 : ¬ owC y p q r lo c l < vC y p q r lo c l (bst (vC y p q r lo c l) K) := fun q => h (decide_eq_true q)
    rw [← bellman hl]
    omega
/-- the step, told by the determinants -/
theorem step_eq (hb : YB y k0) {c c' : Nat → Nat} {l : Nat} (hl : l ≤ y 0) : (((q : Int) * (y 6 : Int)) * uC y p q r lo c' l) * dC y p q lo c = dC y p q lo c' * vC y p q r lo c l (c' l) + (p : Int) * aws y (fun j => dC y p q lo c * uC y p q r lo c' j + (-dC y p q lo c') * uC y p q r lo c j) (lo l (c' l)) 4 := by
  have h := bellman (r := r) (lo := lo) (p := p) (q := q) (c := c') hl
  rw [aws_lin]
  unfold owC vC at h
  unfold vC
  generalize aws y (uC y p q r lo c') (lo l (c' l)) 4 = A at h ⊢
  generalize aws y (uC y p q r lo c) (lo l (c' l)) 4 = B at h ⊢
  generalize dC y p q lo c = D at h ⊢
  generalize dC y p q lo c' = D' at h ⊢
  generalize uC y p q r lo c' l = u at h ⊢
  generalize (q : Int) * (y 6 : Int) = e at h ⊢
  generalize (p : Int) = pp at h ⊢
  generalize r l (c' l) = rr at h ⊢
  grind
theorem z_pos (hb : YB y k0) (hpq : p < q) (hq : q ≤ 5) {c c' : Nat → Nat} (h : ∀ l, l ≤ y 0 → owC y p q r lo c l ≤ vC y p q r lo c l (c' l)) : ∀ j, j ≤ y 0 → 0 ≤ dC y p q lo c * uC y p q r lo c' j + (-dC y p q lo c') * uC y p q r lo c j := by
  have hM := (RY_MM hb hpq (loC lo c')).1
  have hd' := (dY_bd hb hpq hq (loC lo c')).1
  intro j hj
  refine MM_nonneg hM (z := fun j => dC y p q lo c * uC y p q r lo c' j + (-dC y p q lo c') * uC y p q r lo c j) (fun i hi => ?_) j (by omega)
  rw [RY_sm y p q (loC lo c') _ hi]
  have h1 := step_eq hb (p := p) (q := q) (r := r) (lo := lo) (c := c) (c' := c') (l := i) (by omega)
  have h2 := h i (by omega)
  have e2 : loC lo c' i = lo i (c' i) := rfl
  rw [e2]
  have h3 : 0 ≤ dC y p q lo c' * (vC y p q r lo c i (c' i) - owC y p q r lo c i) := Int.mul_nonneg (Int.le_of_lt hd') (by omega)
  unfold owC at h3
  generalize aws y (fun j => dC y p q lo c * uC y p q r lo c' j + (-dC y p q lo c') * uC y p q r lo c j) (lo i (c' i)) 4 = A at h1 ⊢
  generalize vC y p q r lo c i (c' i) = v at h1 h3
  generalize dC y p q lo c = D at h1 h3 ⊢
  generalize dC y p q lo c' = D' at h1 h3 ⊢
  generalize uC y p q r lo c' i = u' at h1 h3 ⊢
  generalize uC y p q r lo c i = u at h1 h3 ⊢
  generalize (q : Int) * (y 6 : Int) = e at h1 h3 ⊢
  generalize (p : Int) = pp at h1 h3 ⊢
  have e3 : e * (D * u' + -D' * u) - pp * A = D' * (v - u * e) := by grind
  rw [e3]
  exact h3
/-- how far c is from cs -/
def xC (y : Nat → Nat) (p q : Nat) (r : Nat → Nat → Int) (lo : Nat → Nat → Nat) (cs c : Nat → Nat) (j : Nat) : Int := uC y p q r lo cs j * dC y p q lo c - uC y p q r lo c j * dC y p q lo cs
theorem x_step (hb : YB y k0) (hpq : p < q) (hq : q ≤ 5) {cs c : Nat → Nat} (hcs : ∀ l, cs l < K) {l : Nat} (hl : l ≤ y 0) : (((q : Int) * (y 6 : Int)) * dC y p q lo c) * xC y p q r lo cs (nxC y p q r lo K c) l ≤ (dC y p q lo (nxC y p q r lo K c) * (p : Int)) * aws y (xC y p q r lo cs c) (lo l (cs l)) 4 := by
  have hz := z_pos hb hpq hq (r := r) (lo := lo) (c := c) (c' := nxC y p q r lo K c) fun l hl => (nxC_own hl).1
  have h1 := step_eq hb (p := p) (q := q) (r := r) (lo := lo) (c := c) (c' := nxC y p q r lo K c) (l := l) hl
  have h2 := bellman (r := r) (lo := lo) (p := p) (q := q) (c := cs) hl
  have hmx := nxC_max (y := y) (p := p) (q := q) (r := r) (lo := lo) (K := K) (c := c) hl (hcs l)
  have hd' := (dY_bd hb hpq hq (loC lo (nxC y p q r lo K c))).1
  have hds := (dY_bd hb hpq hq (loC lo cs)).1
  have hA : 0 ≤ aws y (fun j => dC y p q lo c * uC y p q r lo (nxC y p q r lo K c) j + (-dC y p q lo (nxC y p q r lo K c)) * uC y p q r lo c j) (lo l (nxC y p q r lo K c l)) 4 := by
    have h0 := aws_mono y (R := fun _ => 0) hz (lo l (nxC y p q r lo K c l)) 4
    rw [aws_con hb, Int.zero_mul] at h0
    exact h0
  have hX : aws y (xC y p q r lo cs c) (lo l (cs l)) 4 = dC y p q lo c * aws y (uC y p q r lo cs) (lo l (cs l)) 4 + (-dC y p q lo cs) * aws y (uC y p q r lo c) (lo l (cs l)) 4 := by
    rw [← aws_lin]
    exact aws_congr (fun j _ => by unfold xC; grind) 4
  rw [hX]
  have e1 : xC y p q r lo cs (nxC y p q r lo K c) l = uC y p q r lo cs l * dC y p q lo (nxC y p q r lo K c) - uC y p q r lo (nxC y p q r lo K c) l * dC y p q lo cs := rfl
  rw [e1]
  unfold owC vC at h2
  have h3 : 0 ≤ (dC y p q lo (nxC y p q r lo K c) * dC y p q lo cs) * (vC y p q r lo c l (nxC y p q r lo K c l) - vC y p q r lo c l (cs l)) := Int.mul_nonneg (Int.mul_nonneg (Int.le_of_lt hd') (Int.le_of_lt hds)) (by omega)
  have h4 : 0 ≤ (dC y p q lo cs * (p : Int)) * aws y (fun j => dC y p q lo c * uC y p q r lo (nxC y p q r lo K c) j + (-dC y p q lo (nxC y p q r lo K c)) * uC y p q r lo c j) (lo l (nxC y p q r lo K c l)) 4 := Int.mul_nonneg (Int.mul_nonneg (Int.le_of_lt hds) (Int.natCast_nonneg p)) hA
  generalize aws y (fun j => dC y p q lo c * uC y p q r lo (nxC y p q r lo K c) j + (-dC y p q lo (nxC y p q r lo K c)) * uC y p q r lo c j) (lo l (nxC y p q r lo K c l)) 4 = A at h1 h4
  generalize vC y p q r lo c l (nxC y p q r lo K c l) = v' at h1 h3
  have e5 : vC y p q r lo c l (cs l) = r l (cs l) * (dC y p q lo c * ((q : Int) * (y 6 : Int))) + (p : Int) * aws y (uC y p q r lo c) (lo l (cs l)) 4 := rfl
  rw [e5] at h3
  generalize aws y (uC y p q r lo cs) (lo l (cs l)) 4 = S at h2 ⊢
  generalize aws y (uC y p q r lo c) (lo l (cs l)) 4 = T at h3 ⊢
  generalize dC y p q lo (nxC y p q r lo K c) = D' at h1 h3 h4 ⊢
  generalize uC y p q r lo (nxC y p q r lo K c) l = u' at h1 ⊢
  generalize dC y p q lo c = D at h1 h3 h4 ⊢
  generalize dC y p q lo cs = Ds at h2 h3 h4 ⊢
  generalize uC y p q r lo cs l = us at h2 ⊢
  generalize r l (cs l) = rs at h2 h3
  generalize (q : Int) * (y 6 : Int) = e at h1 h2 h3 ⊢
  generalize (p : Int) = pp at h1 h2 h3 h4 ⊢
  have e6 : (D' * pp) * (D * S + -Ds * T) - (e * D) * (us * D' - u' * Ds) = (D' * Ds) * (v' - (rs * (D * e) + pp * T)) + (Ds * pp) * A := by grind
  omega
end POM
