/-! The law's wrappers. -/
theorem go_inW {d k : Nat} {R : RT} {Q : List Value → Mm → Prop} {tx : Tx} {g pc : Nat} {L : Lo} {st : List Value} {M : Mm} (h : blk (SC d) (ST d) R (hdW k Q) tx (Wp (SC d) (ST d) R (hdW k Q) tx) g pc L st M) : Wp (SC d) (ST d) R (hdW k Q) tx g pc L st M := Wp_in (sem_mono d).1 (sem_mono d).2 (fun _ _ _ _ _ _ _ q => q) h
theorem sW {d k : Nat} {as : List Value} {M : Mm} {Q : List Value → Mm → Prop} (hk : 234 ≤ k) (hk2 : k < 264) (ha : aOK as (mlOf k) = true) (h : Wp (SC d) (ST d) (RP Q) (hdW k Q) (txOf k) 1 0 (entL as (mlOf k)) [] M) : SC (d + 1) k as M Q := by
  refine Or.inr ⟨hk2, ha, ?_⟩
  have hd0 : hdC k Q = hdW k Q := by
    unfold hdC
    rw [show Nat.blt k 234 = false by
      cases hb : Nat.blt k 234 with
      | true => have := Nat.blt_eq.mp hb; omega
      | false => rfl]
    rfl
  have hg : gOf k = 1 := by
    unfold gOf
    rw [show Nat.ble 234 k = true from Nat.ble_eq.mpr hk]
    rfl
  rw [hd0, hg]
  exact h
section WR
variable {d : Nat} {M : Mm}
/-- the wrapper of well: told, or thrown -/
theorem c234 {a b : Int32} {Q : List Value → Mm → Prop} (h : SC d 81 [.ref 704, .int a, .int b] M (fun vs N => vs = [] ∧ Q [.int (nI 0)] N)) : SC (d + 1) 234 [.ref 704, .int a, .int b] M Q := by
  refine sW (by decide) (by decide) rfl (go_inW (e234_0 (Or.inl (useC h fun vs N q => ?_))))
  obtain ⟨rfl, q⟩ := q
  exact e234_6 (go_inW (e234_12 ⟨rfl, q⟩))
theorem t234 {a b : Int32} {Q : List Value → Mm → Prop} (h : ST d 81 [.ref 704, .int a, .int b] M (fun E N => E = 0 ∧ Q [.int (nI 1)] N)) : SC (d + 1) 234 [.ref 704, .int a, .int b] M Q := by
  refine sW (by decide) (by decide) rfl (go_inW (e234_0 (Or.inr ?_)))
  show ST _ 81 _ _ _
  refine useT h fun E N q => ?_
  obtain ⟨rfl, q⟩ := q
  exact q
end WR
