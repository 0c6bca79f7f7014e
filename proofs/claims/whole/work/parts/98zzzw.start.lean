/-! The start: what stands in the memory then. -/
def w0s (i : Nat) : Nat := if i = 0 then 4 else if i = 3 ∨ i = 6 ∨ i = 9 ∨ i = 21 ∨ i = 26 ∨ i = 31 then 1 else if i = 7 then 2 else if i = 34 then 3 else 0
def MZ : Mm := M0 0 fun _ => 0
theorem M0_1 {L : Nat} {xs : Nat → Int32} {k j : Nat} (h : k ≠ 70001) : (M0 L xs).1 k j = MZ.1 k j := by
  unfold MZ M0
  dsimp only
  rw [if_neg h, if_neg h]
theorem M0_L {L : Nat} {xs : Nat → Int32} : (M0 L xs).1 70001 4000 = nI L := by
  unfold M0
  dsimp only
  rw [if_pos rfl, if_pos rfl]
theorem mz_r : ∀ i, i < 475 → MZ.1 50177 i = iz (wv w0s i) := by decide +kernel
theorem mz_c : ∀ i, i < 37 → (i < 17 ∨ 32 ≤ i) → MZ.1 (pl i).1 (pl i).2 = iz (wv w0s i) := by decide +kernel
theorem mz_z : ∀ f, f < 3 → MZ.1 33798 (f * 4) = nI 0 := by decide +kernel
theorem mz_t : MZ.1 384 1 = nI 0 ∧ MZ.1 704 10 = nI 0 ∧ MZ.1 704 11 = MZ.1 768 10 ∧ MZ.1 768 3 = nI 0 ∧ MZ.1 768 5 = nI 0 ∧ MZ.1 768 14 = iz (-1) ∧ MZ.1 768 15 = nI 0 := by decide +kernel
theorem pl_ne : ∀ i, i < 475 → (pl i).1 ≠ 70001 := by decide +kernel
theorem WB_0 : WB w0s := by
  unfold WB
  refine ⟨by decide, ⟨by decide, by decide, by decide⟩, by decide, by decide, by decide, fun f hf => absurd hf (Nat.not_lt_zero f), fun r hr => ?_, fun b hb => absurd hb (Nat.not_lt_zero b), fun j hj => absurd hj (Nat.not_lt_zero j)⟩
  have : r = 0 := by
    have h1 : w0s 9 = 1 := rfl
    omega
  subst this
  decide
theorem inv_0 {L : Nat} {xs : Nat → Int32} : INV L (M0 L xs) := by
  obtain ⟨z1, z2, z3, z4, z5, z6, z7⟩ := mz_t
  have e : ∀ {k j : Nat}, k ≠ 70001 → (M0 L xs).1 k j = MZ.1 k j := fun h => M0_1 h
  refine ⟨w0s, fun _ _ _ => 0, 0, fun _ => 0, MZ.1 768 10, 0, w0s, fun _ _ _ => 0, M0_L, ⟨WB_0, fun h => absurd h (by decide), by decide⟩, ⟨⟨fun i hi hv => ?_, fun f hf => ?_, fun q T i hq => absurd hq (Nat.not_lt_zero q)⟩, ⟨?_, by decide, fun _ => (by decide : (-128 : Int) ≤ 0 ∧ (0 : Int) ≤ 127), fun j hj => absurd hj (Nat.not_lt_zero j)⟩, ?_, ?_, fun h => absurd h (by decide)⟩, ⟨⟨fun i hi => ?_, fun q hq => absurd hq (Nat.not_lt_zero q), ?_, 0, ?_⟩, ⟨?_, by decide, fun _ => (by decide : (-128 : Int) ≤ 0 ∧ (0 : Int) ≤ 127), fun j hj => absurd hj (Nat.not_lt_zero j)⟩, ?_, ?_, fun h => absurd h (by decide)⟩⟩
  · rw [e (pl_ne i hi)]
    have h8 : w0s 8 = 0 := rfl
    have h9 : w0s 9 = 1 := rfl
    have h12 : w0s 12 = 0 := rfl
    have h13 : w0s 13 = 0 := rfl
    unfold vld at hv
    exact mz_c i (by omega) (by omega)
  · rw [e (by decide)]
    exact mz_z f hf
  · rw [e (by decide)]
    exact z1
  · rw [e (by decide)]
    exact z3
  · rw [e (by decide)]
    exact z2
  · rw [e (by decide)]
    exact mz_r i hi
  · rw [e (by decide)]
    exact z6
  · rw [e (by decide)]
    exact z7
  · rw [e (by decide)]
    exact z5
  · rw [e (by decide)]
  · rw [e (by decide)]
    exact z4
theorem law_ok : LAWOK := ⟨40, by decide, fun L xs hL => law_loop hL 512 0 512 (M0 L xs) (Nat.le_refl _) (by omega) (by omega) inv_0⟩
