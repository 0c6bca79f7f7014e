/-! The start: the law's frame comes to its loop. -/
theorem law_d : (decode code 0 = .ok (.new 8, 3) ∧ decode code 3 = .ok (.dup, 1) ∧ decode code 4 = .ok (.invokespecial 128, 3) ∧ decode code 7 = .ok (.astore_n 1, 1)) ∧ (decode code 8 = .ok (.new 129, 3) ∧ decode code 11 = .ok (.dup, 1) ∧ decode code 12 = .ok (.invokespecial 131, 3) ∧ decode code 15 = .ok (.astore_n 2, 1)) ∧ (decode code 16 = .ok (.iconst 1, 1) ∧ decode code 17 = .ok (.newarray .long, 2) ∧ decode code 19 = .ok (.astore_n 3, 1)) ∧ decode code 20 = .ok (.iconst 0, 1) ∧ decode code 21 = .ok (.istore 4, 2) := by decide +kernel
def am1 : List AE := (am 4 11 [.ref 0] [.inl (11, dfl 11)]).getD []
def am2 : List AE := (am 4 12 [.ref am1.length] (am1 ++ [.inl (12, dfl 12)])).getD []
theorem am1_ok : ((am 4 11 [.ref 0] [.inl (11, dfl 11)]).isSome && (am 4 12 [.ref am1.length] (am1 ++ [.inl (12, dfl 12)])).isSome) = true := by decide +kernel
theorem am1_is : am 4 11 [.ref 0] [.inl (11, dfl 11)] = some am1 := by
  have h := (and2 am1_ok).1
  unfold am1
  cases hq : am 4 11 [.ref 0] [.inl (11, dfl 11)] with
  | none => rw [hq] at h; cases h
  | some x => rfl
theorem am2_is : am 4 12 [.ref am1.length] (am1 ++ [.inl (12, dfl 12)]) = some am2 := by
  have h := (and2 am1_ok).2
  unfold am2
  cases hq : am 4 12 [.ref am1.length] (am1 ++ [.inl (12, dfl 12)]) with
  | none => rw [hq] at h; cases h
  | some x => rfl
theorem am1_c : (cond (Nat.beq 11 99) (some [.inl (11, dfl 11)]) (am 4 11 [.ref 0] [.inl (11, dfl 11)])) = some am1 := by
  rw [show Nat.beq 11 99 = false from rfl, cond_false]
  exact am1_is
theorem am2_c : (cond (Nat.beq 12 99) (some (am1 ++ [.inl (12, dfl 12)])) (am 4 12 [.ref am1.length] (am1 ++ [.inl (12, dfl 12)]))) = some am2 := by
  rw [show Nat.beq 12 99 = false from rfl, cond_false]
  exact am2_is
theorem amE_is : amE = am2 ++ [.inr (2, 1, [])] := by
  unfold amE amS
  rw [am1_is]
  dsimp only
  rw [am2_is]
  rfl
theorem am_num : (am1.all (wfE am1.length) && am2.all (wfE am2.length)) = true ∧ (am1.length = ix 768 ∧ am2.length = 104) ∧ (ix 704 = 0 ∧ ix 70000 = 104 ∧ ix 768 < 104) ∧ sE am2 ≤ 18300 := by decide +kernel
theorem gup_ne {g : Nat → Nat} {n q i : Nat} (h : i ≠ n) : gup g n q i = g i := by unfold gup; rw [if_neg h]
