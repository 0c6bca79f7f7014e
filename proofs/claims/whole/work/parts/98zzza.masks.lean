/-! Masks of places. -/
def BM (g : Nat → Bool) (x : Int64) : Prop := ∀ p, x.toBitVec.getLsbD p = (decide (p < 48) && g p)
theorem BM.cg {g g' : Nat → Bool} {x : Int64} (h : BM g x) (he : ∀ p, p < 48 → g p = g' p) : BM g' x := fun p => by
  rw [h p]
  by_cases hp : p < 48
  · rw [he p hp]
  · rw [decide_eq_false hp, Bool.false_and, Bool.false_and]
theorem BM.and {g g' : Nat → Bool} {x y : Int64} (h : BM g x) (h' : BM g' y) : BM (fun p => g p && g' p) (x &&& y) := fun p => by
  rw [Int64.toBitVec_and, BitVec.getLsbD_and, h p, h' p]
  show _ = (decide (p < 48) && (g p && g' p))
  cases decide (p < 48) <;> cases g p <;> cases g' p <;> rfl
theorem BM.or {g g' : Nat → Bool} {x y : Int64} (h : BM g x) (h' : BM g' y) : BM (fun p => g p || g' p) (x ||| y) := fun p => by
  rw [Int64.toBitVec_or, BitVec.getLsbD_or, h p, h' p]
  show _ = (decide (p < 48) && (g p || g' p))
  cases decide (p < 48) <;> cases g p <;> cases g' p <;> rfl
theorem m1_b : ∀ p, p < 64 → (-(lN 1)).toBitVec.getLsbD p = true := by decide +kernel
/-- x without y -/
theorem BM.wo {g g' : Nat → Bool} {x y : Int64} (h : BM g x) (h' : BM g' y) : BM (fun p => g p && !g' p) (x &&& (y ^^^ (-(lN 1)))) := fun p => by
  rw [Int64.toBitVec_and, BitVec.getLsbD_and, Int64.toBitVec_xor, BitVec.getLsbD_xor, h p, h' p]
  by_cases hp : p < 64
  · rw [m1_b p hp]
    show _ = (decide (p < 48) && (g p && !g' p))
    cases decide (p < 48) <;> cases g p <;> cases g' p <;> rfl
  · rw [decide_eq_false (by omega : ¬ p < 48)]
    rfl
theorem BM_all : BM (fun _ => true) (lN 281474976710655) := fun p => by
  have h : ∀ p, p < 64 → (lN 281474976710655).toBitVec.getLsbD p = (decide (p < 48) && true) := by decide +kernel
  by_cases hp : p < 64
  · exact h p hp
  · rw [BitVec.getLsbD_of_ge _ _ (by omega), decide_eq_false (by omega : ¬ p < 48)]
    rfl
theorem BM_brk : BM (fun p => decide (p / 8 % 2 = 1)) (lN 280379743338240) := fun p => by
  have h : ∀ p, p < 64 → (lN 280379743338240).toBitVec.getLsbD p = (decide (p < 48) && decide (p / 8 % 2 = 1)) := by decide +kernel
  by_cases hp : p < 64
  · exact h p hp
  · rw [BitVec.getLsbD_of_ge _ _ (by omega), decide_eq_false (by omega : ¬ p < 48)]
    rfl
theorem BM_0 : BM (fun _ => false) (lN 0) := fun p => by
  have h : ∀ p, p < 64 → (lN 0).toBitVec.getLsbD p = (decide (p < 48) && false) := by decide +kernel
  by_cases hp : p < 64
  · exact h p hp
  · rw [BitVec.getLsbD_of_ge _ _ (by omega), Bool.and_false]
theorem BM_bit {q : Nat} (hq : q < 48) : BM (fun p => decide (p = q)) (lN 1 <<< ((nI q).toInt64 &&& 63)) := fun p => by
  have h : ∀ q, q < 48 → ∀ p, p < 64 → (lN 1 <<< ((nI q).toInt64 &&& 63)).toBitVec.getLsbD p = (decide (p < 48) && decide (p = q)) := by decide +kernel
  by_cases hp : p < 64
  · exact h q hq p hp
  · rw [BitVec.getLsbD_of_ge _ _ (by omega), decide_eq_false (by omega : ¬ p < 48)]
    rfl
/-- as a number -/
theorem BM_nat {g : Nat → Bool} {x : Int64} (h : BM g x) : x = lN x.toBitVec.toNat ∧ x.toBitVec.toNat < 2 ^ 48 ∧ ∀ p, p < 48 → x.toBitVec.toNat / 2 ^ p % 2 = cond (g p) 1 0 := by
  refine ⟨?_, ?_, fun p hp => ?_⟩
  · show x = Int64.ofNat x.toBitVec.toNat
    rw [← Int64.toBitVec_inj, Int64.toBitVec_ofNat', BitVec.ofNat_toNat, BitVec.setWidth_eq]
  · refine Nat.lt_pow_two_of_testBit _ fun i hi => ?_
    have := h i
    rw [decide_eq_false (by omega), Bool.false_and] at this
    exact this
  · have := h p
    rw [decide_eq_true hp, Bool.true_and] at this
    have e : x.toBitVec.toNat.testBit p = g p := this
    rw [Nat.testBit_eq_decide_div_mod_eq] at e
    rw [← e, ← cnd_d]
    by_cases q : x.toBitVec.toNat / 2 ^ p % 2 = 1
    · rw [if_pos q, q]
    · rw [if_neg q]
      omega
