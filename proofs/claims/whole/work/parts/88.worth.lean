/-! MATHEMATICS: worth for ever. -/
theorem sm_swap (g : Nat → Nat → Int) (m : Nat) : ∀ n, sm (fun i => sm (fun j => g i j) m) n = sm (fun j => sm (fun i => g i j) n) m
  | 0 => by
    have : sm (fun j => sm (fun i => g i j) 0) m = sm (fun _ => 0 * 0) m := sm_congr fun j _ => by simp [sm]
    rw [this, sm_mul]; simp [sm]
  | n + 1 => by
    show sm (fun i => sm (fun j => g i j) m) n + sm (fun j => g n j) m = sm (fun j => sm (fun i => g i j) n + g n j) m
    rw [sm_swap g m n, sm_add]
theorem sm_mulr (f : Nat → Int) (a : Int) (n : Nat) : sm (fun j => f j * a) n = sm f n * a := by
  rw [Int.mul_comm, ← sm_mul]
  exact sm_congr fun j _ => Int.mul_comm _ _
theorem sm_neg (f : Nat → Int) (n : Nat) : sm (fun j => -f j) n = -sm f n := by
  have := sm_mul (-1) f n
  have e : sm (fun j => -1 * f j) n = sm (fun j => -f j) n := sm_congr fun j _ => by omega
  rw [e] at this
  omega
/-- what Faddeev and LeVerrier tell of W: the numbers, the squares -/
def FLP (W : Nat → Nat → Int) (n : Nat) (C : Nat → Int) (B : Nat → Nat → Nat → Int) : Prop := C 0 = 1 ∧ (∀ i j, i < n → j < n → B 0 i j = dl i j) ∧ (∀ m, 1 ≤ m → m ≤ n → (m : Int) * C m = -sm (fun i => sm (fun j => W i j * B (m - 1) j i) n) n) ∧ (∀ m, 1 ≤ m → m < n → ∀ i j, i < n → j < n → B m i j = sm (fun k => W i k * B (m - 1) k j) n + C m * dl i j) ∧ (∀ i j, i < n → j < n → sm (fun k => W i k * B (n - 1) k j) n + C n * dl i j = 0) ∧ ∀ x, det (AX W x) n = sm (fun k => C (n - k) * x ^ k) (n + 1)
/-- Horner, of the numbers: k + 1 of them -/
def hb (C : Nat → Int) (p d : Int) : Nat → Int
  | 0 => C 0
  | k + 1 => hb C p d k * d + C (k + 1) * p ^ (k + 1)
theorem hb_sum (C : Nat → Int) (p d : Int) : ∀ n, hb C p d n = sm (fun k => (p ^ (n - k) * C (n - k)) * d ^ k) (n + 1)
  | 0 => by simp [hb, sm]
  | n + 1 => by
    rw [sm_front]
    show hb C p d n * d + C (n + 1) * p ^ (n + 1) = _
    rw [hb_sum C p d n, ← sm_mulr]
    have e : sm (fun k => (p ^ (n - k) * C (n - k)) * d ^ k * d) (n + 1) = sm (fun j => (p ^ (n + 1 - (j + 1)) * C (n + 1 - (j + 1))) * d ^ (j + 1)) (n + 1) := sm_congr fun k _ => by
      rw [show n + 1 - (k + 1) = n - k by omega, Int.pow_succ]; grind
    rw [e]
    simp only [Nat.sub_zero, Int.pow_zero, Int.mul_one]
    rw [Int.mul_comm (C (n + 1))]
    omega
def pW (p : Int) (W : Nat → Nat → Int) (i j : Nat) : Int := p * W i j
theorem FLP_scale {W : Nat → Nat → Int} {n : Nat} {C : Nat → Int} {B : Nat → Nat → Nat → Int} (h : FLP W n C B) (hn : 1 ≤ n) (p d : Int) : det (AX (pW p W) d) n = hb C p d n := by
  obtain ⟨C', B', a0, a1, a2, a3, a4, a5⟩ := FLE (pW p W) n hn
  obtain ⟨b0, b1, b2, b3, b4, b5⟩ := h
  have key : ∀ m, m ≤ n → C' m = p ^ m * C m ∧ (m < n → ∀ i j, i < n → j < n → B' m i j = p ^ m * B m i j) := by
    intro m
    induction m with
    | zero => intro _; exact ⟨by rw [a0, b0]; simp, fun _ i j hi hj => by rw [a1 i j hi hj, b1 i j hi hj]; simp⟩
    | succ m ih =>
      intro hm
      obtain ⟨-, ih2⟩ := ih (by omega)
      have ih2 := ih2 (by omega)
      have e : sm (fun i => sm (fun j => pW p W i j * B' (m + 1 - 1) j i) n) n = p ^ (m + 1) * sm (fun i => sm (fun j => W i j * B (m + 1 - 1) j i) n) n := by
        rw [← sm_mul]
        refine sm_congr fun i hi => ?_
        rw [← sm_mul]
        refine sm_congr fun j hj => ?_
        rw [Nat.add_sub_cancel, ih2 j i hj hi, Int.pow_succ]
        unfold pW; grind
      have h1 := a2 (m + 1) (by omega) hm
      have h2 := b2 (m + 1) (by omega) hm
      rw [e] at h1
      have hC : C' (m + 1) = p ^ (m + 1) * C (m + 1) := by
        have h3 : ((m + 1 : Nat) : Int) * C' (m + 1) = ((m + 1 : Nat) : Int) * (p ^ (m + 1) * C (m + 1)) := by grind
        exact Int.eq_of_mul_eq_mul_left (by omega) h3
      refine ⟨hC, fun hlt i j hi hj => ?_⟩
      rw [a3 (m + 1) (by omega) hlt i j hi hj, b3 (m + 1) (by omega) hlt i j hi hj, hC]
      have e2 : sm (fun k => pW p W i k * B' (m + 1 - 1) k j) n = p ^ (m + 1) * sm (fun k => W i k * B (m + 1 - 1) k j) n := by
        rw [← sm_mul]
        refine sm_congr fun k hk => ?_
        rw [Nat.add_sub_cancel, ih2 k j hk hj, Int.pow_succ]
        unfold pW; grind
      rw [e2]; grind
  rw [a5, hb_sum]
  exact sm_congr fun k hk => by rw [(key (n - k) (by omega)).1]
/-- the terms: the squares on the pay -/
def tB (B : Nat → Nat → Nat → Int) (n : Nat) (pay : Nat → Int) (k i : Nat) : Int := if k < n then sm (fun j => B k i j * pay j) n else 0
theorem tB_0 {W : Nat → Nat → Int} {n : Nat} {C : Nat → Int} {B : Nat → Nat → Nat → Int} (h : FLP W n C B) (pay : Nat → Int) {i : Nat} (hi : i < n) : tB B n pay 0 i = pay i := by
  unfold tB
  rw [if_pos (by omega)]
  have : sm (fun j => B 0 i j * pay j) n = sm (fun j => dl i j * pay j) n := sm_congr fun j hj => by rw [h.2.1 i j hi hj]
  rw [this, sm_dl, if_pos hi]
theorem tB_s {W : Nat → Nat → Int} {n : Nat} {C : Nat → Int} {B : Nat → Nat → Nat → Int} (h : FLP W n C B) (pay : Nat → Int) {k i : Nat} (hk : k < n) (hi : i < n) : tB B n pay (k + 1) i = sm (fun j => W i j * tB B n pay k j) n + C (k + 1) * pay i := by
  have e1 : sm (fun j => W i j * tB B n pay k j) n = sm (fun l => sm (fun j => W i j * B k j l) n * pay l) n := by
    have : sm (fun j => W i j * tB B n pay k j) n = sm (fun j => sm (fun l => W i j * (B k j l * pay l)) n) n := sm_congr fun j _ => by
      unfold tB
      rw [if_pos hk, sm_mul]
    rw [this, sm_swap]
    refine sm_congr fun l _ => ?_
    rw [← sm_mulr]
    exact sm_congr fun j _ => by grind
  have e2 : C (k + 1) * pay i = sm (fun l => C (k + 1) * dl i l * pay l) n := by
    have : sm (fun l => C (k + 1) * dl i l * pay l) n = C (k + 1) * sm (fun l => dl i l * pay l) n := by
      rw [← sm_mul]
      exact sm_congr fun l _ => by grind
    rw [this, sm_dl, if_pos hi]
  rw [e1, e2, ← sm_add]
  unfold tB
  by_cases hk2 : k + 1 < n
  · rw [if_pos hk2]
    refine sm_congr fun l hl => ?_
    rw [h.2.2.2.1 (k + 1) (by omega) hk2 i l hi hl, Nat.add_sub_cancel]; grind
  · rw [if_neg hk2]
    have hkn : n - 1 = k := by omega
    have : sm (fun l => sm (fun j => W i j * B k j l) n * pay l + C (k + 1) * dl i l * pay l) n = sm (fun l => 0 * pay l) n := sm_congr fun l hl => by
      have h5 := h.2.2.2.2.1 i l hi hl
      rw [hkn, show n = k + 1 by omega] at h5
      rw [show n = k + 1 by omega, ← Int.add_mul, h5]
    rw [this, sm_mul, Int.zero_mul]
/-- Horner, of the terms -/
def hs (T : Nat → Nat → Int) (p d : Int) : Nat → Nat → Int
  | 0, _ => 0
  | k + 1, i => hs T p d k i * d + p ^ k * T k i
theorem hs_ok {W : Nat → Nat → Int} {n : Nat} {C : Nat → Int} {B : Nat → Nat → Nat → Int} (h : FLP W n C B) (pay : Nat → Int) (p d : Int) : ∀ m, m ≤ n → ∀ i, i < n → sm (fun j => AX (pW p W) d i j * hs (tB B n pay) p d m j) n + p ^ m * tB B n pay m i = hb C p d m * pay i
  | 0, _, i, hi => by
    have : sm (fun j => AX (pW p W) d i j * hs (tB B n pay) p d 0 j) n = sm (fun j => 0 * AX (pW p W) d i j) n := sm_congr fun j _ => by show _ * (0 : Int) = _; simp
    rw [this, sm_mul, tB_0 h pay hi]
    show 0 * _ + p ^ 0 * pay i = C 0 * pay i
    rw [h.1]; simp
  | m + 1, hm, i, hi => by
    have ih := hs_ok h pay p d m (by omega) i hi
    have e1 : sm (fun j => AX (pW p W) d i j * hs (tB B n pay) p d (m + 1) j) n = sm (fun j => AX (pW p W) d i j * hs (tB B n pay) p d m j) n * d + p ^ m * sm (fun j => AX (pW p W) d i j * tB B n pay m j) n := by
      rw [← sm_mulr, ← sm_mul, ← sm_add]
      exact sm_congr fun j _ => by show _ * (hs (tB B n pay) p d m j * d + p ^ m * tB B n pay m j) = _; grind
    have e2 : sm (fun j => AX (pW p W) d i j * tB B n pay m j) n = d * tB B n pay m i - p * sm (fun j => W i j * tB B n pay m j) n := by
      have e3 : d * tB B n pay m i = d * sm (fun j => dl i j * tB B n pay m j) n := by rw [sm_dl, if_pos hi]
      rw [e3, ← sm_mul, ← sm_mul, Int.sub_eq_add_neg, ← sm_neg, ← sm_add]
      exact sm_congr fun j _ => by unfold AX pW; grind
    rw [e1, e2, tB_s h pay (by omega) hi]
    show _ = (hb C p d m * d + C (m + 1) * p ^ (m + 1)) * pay i
    rw [Int.pow_succ]
    grind
theorem hs_all {W : Nat → Nat → Int} {n : Nat} {C : Nat → Int} {B : Nat → Nat → Nat → Int} (h : FLP W n C B) (hn : 1 ≤ n) (pay : Nat → Int) (p d : Int) {i : Nat} (hi : i < n) : sm (fun j => AX (pW p W) d i j * hs (tB B n pay) p d n j) n = det (AX (pW p W) d) n * pay i := by
  have h1 := hs_ok h pay p d n (Nat.le_refl n) i hi
  have h2 : tB B n pay n i = 0 := if_neg (Nat.lt_irrefl n)
  rw [FLP_scale h hn, ← h1, h2]
  simp
/-- the class's upper numbers are Cramer's -/
theorem worth_eq {W : Nat → Nat → Int} {n : Nat} {C : Nat → Int} {B : Nat → Nat → Nat → Int} (h : FLP W n C B) (hn : 1 ≤ n) (pay : Nat → Int) (p d : Int) (hM : MM (AX (pW p W) d) n) {j : Nat} (hj : j < n) : hs (tB B n pay) p d n j * d = crm (AX (pW p W) d) n (fun i => pay i * d) j := by
  refine MM_uniq hM (u := fun j => hs (tB B n pay) p d n j * d) (v := crm (AX (pW p W) d) n (fun i => pay i * d)) (fun i hi => ?_) j hj
  rw [cramer_n _ _ _ hi]
  have : sm (fun j => AX (pW p W) d i j * (hs (tB B n pay) p d n j * d)) n = sm (fun j => AX (pW p W) d i j * hs (tB B n pay) p d n j) n * d := by
    rw [← sm_mulr]
    exact sm_congr fun j _ => by grind
  rw [this, hs_all h hn pay p d hi]; grind
