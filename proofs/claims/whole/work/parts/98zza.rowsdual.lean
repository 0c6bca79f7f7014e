/-! Rows of rain, counted forwards: the same. -/
def fwd (y lo : Nat → Nat) (x : Nat → Int) (k : Nat) : Int := sm (fun l => x l * Wm y lo l k) (y 0 + 1)
theorem fwd_dual (y lo : Nat → Nat) (x R : Nat → Int) : sm (fun k => fwd y lo x k * R k) (y 0 + 1) = sm (fun l => x l * aws y R (lo l) 4) (y 0 + 1) := by
  have h1 : sm (fun l => x l * aws y R (lo l) 4) (y 0 + 1) = sm (fun l => sm (fun k => x l * Wm y lo l k * R k) (y 0 + 1)) (y 0 + 1) := sm_congr fun l _ => by
    rw [← Wm_sm R, ← sm_mul]
    exact sm_congr fun k _ => by grind
  rw [h1, sm_swap]
  refine sm_congr fun k _ => ?_
  unfold fwd
  rw [← sm_mulr]
/-- what has run dry, and what stands at the levels, year by year -/
def dyX (y lo : Nat → Nat) (l0 : Nat) : Nat → Nat → Int
  | 0 => fun k => if k = l0 then 1 else 0
  | t + 1 => fun k => if k = 0 then 0 else fwd y lo (dyX y lo l0 t) k
def dyS (y lo : Nat → Nat) (N : Int) (l0 : Nat) : Nat → Int
  | 0 => 0
  | t + 1 => dyS y lo N l0 t * N + fwd y lo (dyX y lo l0 t) 0
def ptX (y lo : Nat → Nat) (l0 : Nat) : Nat → Nat → Int
  | 0 => fun k => if k = l0 then 1 else 0
  | t + 1 => fwd y lo (ptX y lo l0 t)
def ptS (y lo : Nat → Nat) (g : Nat → Nat) (N : Int) (l0 : Nat) : Nat → Int
  | 0 => 0
  | t + 1 => ptS y lo g N l0 t * N + sm (fun l => ptX y lo l0 t l * (g l : Int) * N) (y 0 + 1)
theorem sm_at {n l0 : Nat} (h : l0 < n) (R : Nat → Int) : sm (fun k => (if k = l0 then 1 else 0) * R k) n = R l0 := by
  have e : sm (fun k => (if k = l0 then 1 else 0) * R k) n = sm (fun k => dl l0 k * R k) n := sm_congr fun k _ => by
    unfold dl
    by_cases q : k = l0
    · rw [if_pos q, if_pos q.symm]
    · rw [if_neg q, if_neg (fun e => q e.symm)]
  rw [e, sm_dl, if_pos h]
theorem dy_inv (y lo : Nat → Nat) (N : Int) {l0 n : Nat} (hl : l0 ≤ y 0) : ∀ t, t ≤ n → dyD y lo N n l0 = dyS y lo N l0 t * N ^ (n - t) + sm (fun k => dyX y lo l0 t k * dyD y lo N (n - t) k) (y 0 + 1)
  | 0, _ => by
    have e : dyX y lo l0 0 = fun k => if k = l0 then 1 else 0 := rfl
    have e2 : dyS y lo N l0 0 = 0 := rfl
    rw [e, e2, Nat.sub_zero, sm_at (by omega), Int.zero_mul, Int.zero_add]
  | t + 1, ht => by
    have h := dy_inv y lo N (n := n) hl t (by omega)
    have em : n - t = (n - (t + 1)) + 1 := by omega
    rw [h, em]
    generalize n - (t + 1) = m
    have e1 : (fun k => dyX y lo l0 t k * dyD y lo N (m + 1) k) = fun k => dyX y lo l0 t k * aws y (fun k => if k = 0 then N ^ m else dyD y lo N m k) (lo k) 4 := rfl
    rw [e1, ← fwd_dual]
    have e2 : sm (fun k => fwd y lo (dyX y lo l0 t) k * (if k = 0 then N ^ m else dyD y lo N m k)) (y 0 + 1) = sm (fun k => dyX y lo l0 (t + 1) k * dyD y lo N m k) (y 0 + 1) + fwd y lo (dyX y lo l0 t) 0 * N ^ m := by
      have h0 := sm_upd (f := fun k => dyX y lo l0 (t + 1) k * dyD y lo N m k) (g := fun k => fwd y lo (dyX y lo l0 t) k * (if k = 0 then N ^ m else dyD y lo N m k)) (n := y 0 + 1) (j := 0) (by omega) fun i _ hi => by
        show fwd y lo (dyX y lo l0 t) i * (if i = 0 then N ^ m else dyD y lo N m i) = (if i = 0 then 0 else fwd y lo (dyX y lo l0 t) i) * dyD y lo N m i
        rw [if_neg hi, if_neg hi]
      rw [h0]
      show _ + (fwd y lo (dyX y lo l0 t) 0 * N ^ m - 0 * dyD y lo N m 0) = _
      rw [Int.zero_mul, Int.sub_zero]
    have e3 : dyS y lo N l0 (t + 1) = dyS y lo N l0 t * N + fwd y lo (dyX y lo l0 t) 0 := rfl
    rw [e2, e3, Int.pow_succ]
    generalize sm (fun k => dyX y lo l0 (t + 1) k * dyD y lo N m k) (y 0 + 1) = S
    grind
theorem dy_ok (y lo : Nat → Nat) (N : Int) {l0 : Nat} (hl : l0 ≤ y 0) (n : Nat) : dyS y lo N l0 n = dyD y lo N n l0 := by
  have h := dy_inv y lo N (n := n) hl n (Nat.le_refl n)
  rw [Nat.sub_self, Int.pow_zero, Int.mul_one] at h
  have e : sm (fun k => dyX y lo l0 n k * dyD y lo N 0 k) (y 0 + 1) = 0 := by
    have e2 : sm (fun k => dyX y lo l0 n k * dyD y lo N 0 k) (y 0 + 1) = sm (fun k => 0 * dyX y lo l0 n k) (y 0 + 1) := sm_congr fun k _ => by
      show dyX y lo l0 n k * 0 = _
      omega
    rw [e2, sm_mul, Int.zero_mul]
  rw [e, Int.add_zero] at h
  exact h.symm
theorem pt_inv (y lo : Nat → Nat) (g : Nat → Nat) (N : Int) {l0 n : Nat} (hl : l0 ≤ y 0) : ∀ t, t ≤ n → ptP y lo g N n l0 = ptS y lo g N l0 t * N ^ (n - t) + sm (fun k => ptX y lo l0 t k * ptP y lo g N (n - t) k) (y 0 + 1)
  | 0, _ => by
    have e : ptX y lo l0 0 = fun k => if k = l0 then 1 else 0 := rfl
    have e2 : ptS y lo g N l0 0 = 0 := rfl
    rw [e, e2, Nat.sub_zero, sm_at (by omega), Int.zero_mul, Int.zero_add]
  | t + 1, ht => by
    have h := pt_inv y lo g N (n := n) hl t (by omega)
    have em : n - t = (n - (t + 1)) + 1 := by omega
    rw [h, em]
    generalize n - (t + 1) = m
    have e1 : sm (fun k => ptX y lo l0 t k * ptP y lo g N (m + 1) k) (y 0 + 1) = N ^ m * sm (fun k => ptX y lo l0 t k * (g k : Int) * N) (y 0 + 1) + sm (fun k => ptX y lo l0 t k * aws y (ptP y lo g N m) (lo k) 4) (y 0 + 1) := by
      rw [← sm_mul, ← sm_add]
      refine sm_congr fun k _ => ?_
      show ptX y lo l0 t k * ((g k : Int) * N ^ (m + 1) + aws y (ptP y lo g N m) (lo k) 4) = _
      rw [Int.pow_succ]
      grind
    have e3 : ptS y lo g N l0 (t + 1) = ptS y lo g N l0 t * N + sm (fun l => ptX y lo l0 t l * (g l : Int) * N) (y 0 + 1) := rfl
    have e4 : ptX y lo l0 (t + 1) = fwd y lo (ptX y lo l0 t) := rfl
    rw [e1, e3, e4, fwd_dual, Int.pow_succ]
    generalize sm (fun k => ptX y lo l0 t k * aws y (ptP y lo g N m) (lo k) 4) (y 0 + 1) = S
    generalize sm (fun k => ptX y lo l0 t k * (g k : Int) * N) (y 0 + 1) = T
    grind
theorem pt_ok (y lo : Nat → Nat) (g : Nat → Nat) (N : Int) {l0 : Nat} (hl : l0 ≤ y 0) (n : Nat) : ptS y lo g N l0 n = ptP y lo g N n l0 := by
  have h := pt_inv y lo g N (n := n) hl n (Nat.le_refl n)
  rw [Nat.sub_self, Int.pow_zero, Int.mul_one] at h
  have e : sm (fun k => ptX y lo l0 n k * ptP y lo g N 0 k) (y 0 + 1) = 0 := by
    have e2 : sm (fun k => ptX y lo l0 n k * ptP y lo g N 0 k) (y 0 + 1) = sm (fun k => 0 * ptX y lo l0 n k) (y 0 + 1) := sm_congr fun k _ => by
      show ptX y lo l0 n k * 0 = _
      omega
    rw [e2, sm_mul, Int.zero_mul]
  rw [e, Int.add_zero] at h
  exact h.symm
