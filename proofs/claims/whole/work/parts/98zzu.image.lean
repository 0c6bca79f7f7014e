/-! The image, on both sides. -/
def kI (k : Nat) : Nat := if k = 512 then 513 else if 33792 ≤ k ∧ k < 33856 then k + 64 else k
def shM (M : Mm) : Mm := (fun k j => M.1 (kI k) j, fun k j => M.2.1 (kI k) j, M.2.2)
def imM (M : Mm) : Mm := (fun k j => M.1 (if k = 50177 then 50178 else k) j, M.2)
def aImg (k _ : Nat) : Bool := inO 513 k
def plB (k j : Nat) : Bool := decide ((k = 512 ∧ (j = 0 ∨ j = 1 ∨ j = 3 ∨ j = 4 ∨ j = 5 ∨ j = 9 ∨ j = 10 ∨ j = 12 ∨ j = 14 ∨ j = 16)) ∨ (k = 33794 ∧ j < 4) ∨ (k = 33798 ∧ j < 12) ∨ (k = 33799 ∧ j < 3) ∨ (k = 33800 ∧ j < 3) ∨ (k = 33803 ∧ j < 25) ∨ (k = 33807 ∧ j < 18) ∨ (k = 33809 ∧ j < 400) ∨ (k = 33810 ∧ j < 3))
theorem plB_pl : ∀ i, i < 475 → plB (pl i).1 (pl i).2 = true := by decide +kernel
theorem cpI_k (M : Mm) {x y s d n a b : Nat} (h : a ≠ y) : (cpI M x y s d n).1 a b = M.1 a b := if_neg fun q => h q.1
theorem cpI_e (M : Mm) {x y n b : Nat} (h : b < n) : (cpI M x y 0 0 n).1 y b = M.1 x b := by
  rw [cpI_v, if_pos ⟨rfl, Nat.zero_le _, by omega⟩, Nat.sub_zero, Nat.zero_add]
theorem cpJ_1 (M : Mm) (x y s d n : Nat) : (cpJ M x y s d n).1 = M.1 := rfl
theorem cpI_2 (M : Mm) (x y s d n : Nat) : (cpI M x y s d n).2.1 = M.2.1 := rfl
theorem sI_2 (M : Mm) (k j : Nat) (v : Int32) : (sI M k j v).2.1 = M.2.1 := rfl
theorem cpJ_e (M : Mm) {x y n b : Nat} (h : b < n) : (cpJ M x y 0 0 n).2.1 y b = M.2.1 x b := by
  show (if y = y ∧ 0 ≤ b ∧ b < 0 + n then M.2.1 x (0 + (b - 0)) else M.2.1 y b) = _
  rw [if_pos ⟨rfl, Nat.zero_le _, by omega⟩, Nat.sub_zero, Nat.zero_add]
/-- the same at all that is told -/
theorem TI_eq {w : Nat → Nat} {ta : Nat → Nat → Nat → Nat} {M N : Mm} (h : TI w ta M) (hb : w 11 ≤ 6) (h1 : ∀ k j, plB k j = true → N.1 k j = M.1 k j) (h2 : ∀ j, j < 84 → N.2.1 33805 j = M.2.1 33805 j) : TI w ta N := by
  obtain ⟨a, b, c⟩ := h
  refine ⟨fun i hi hv => (h1 _ _ (plB_pl i hi)).trans (a i hi hv), fun f hf => (h1 _ _ (decide_eq_true (Or.inr (Or.inr (Or.inl ⟨rfl, by omega⟩))))).trans (b f hf), fun q T i hq hT hT7 hi => ?_⟩
  rw [h2 _ (by omega)]
  exact c q T i hq hT hT7 hi
theorem LNE_eq {M N : Mm} {q n num : Nat} {cs : List (Nat × Nat)} (h : LNE M q n num cs) (hn : n < 10) (he : ∀ j, 475 + 831 * q ≤ j → j < 475 + 831 * (q + 1) → N.1 50177 j = M.1 50177 j) : LNE N q n num cs := by
  obtain ⟨lo, ⟨h1, h2, h3, h4⟩, h5⟩ := h
  refine ⟨lo, ⟨h1, by rw [he _ (by omega) (by omega)]; exact h2, by rw [he _ (by omega) (by omega)]; exact h3, by rw [he _ (by omega) (by omega)]; exact h4⟩, fun i c hc => ?_⟩
  have hi : i < cs.length := (List.getElem?_eq_some_iff.mp hc).1
  rw [he _ (by omega) (by omega), he _ (by omega) (by omega)]
  exact h5 i c hc
theorem DRW_eq {M N : Mm} {q : Nat} {ls : List (Nat × List (Nat × Nat))} (h : DRW M q ls) (he : ∀ j, 475 + 831 * q ≤ j → j < 475 + 831 * (q + 1) → N.1 50177 j = M.1 50177 j) : DRW N q ls := by
  obtain ⟨h1, h2, h3⟩ := h
  refine ⟨by rw [he _ (by omega) (by omega)]; exact h1, h2, fun n x hx => ⟨(h3 n x hx).1, LNE_eq (h3 n x hx).2 ?_ he⟩⟩
  have := (List.getElem?_eq_some_iff.mp hx).1
  omega
theorem DRel_eq {w : Nat → Nat} {ta : Nat → Nat → Nat → Nat} {M N : Mm} (h : DRel w ta M) (hb : w 11 ≤ 6) (he : ∀ j, 475 ≤ j → j < 5461 → N.1 50177 j = M.1 50177 j) : DRel w ta N := fun q hq => by
  obtain ⟨ls, h1, h2⟩ := h q hq
  have hq5 : 831 * (q + 1) ≤ 831 * 6 := Nat.mul_le_mul_left _ (by omega)
  exact ⟨ls, DRW_eq h1 fun j a b => he j (Nat.le_trans (Nat.le_add_right _ _) a) (Nat.lt_of_lt_of_le b (Nat.add_le_add_left hq5 475)), h2⟩
section IG
variable {d : Nat} {M : Mm} {w : Nat → Nat} {ta : Nat → Nat → Nat → Nat}
theorem c47k : SC (d + 1) 47 [.ref 513, .ref 512] M (fun vs N => vs = [] ∧ (∀ k j, plB k j = true → N.1 (kI k) j = M.1 k j) ∧ (∀ j, j < 84 → N.2.1 33869 j = M.2.1 33805 j) ∧ Fr aImg M N) := by
  have B : ∀ n : Nat, n ≤ 400 → ¬ nI 0 < 0 ∧ ¬ nI 0 < 0 ∧ ¬ nI n < 0 ∧ (nI 0).toNatClampNeg + (nI n).toNatClampNeg ≤ n ∧ (nI 0).toNatClampNeg + (nI n).toNatClampNeg ≤ n := fun n hn => by
    rw [nI_c (by decide), nI_c (by omega)]
    exact ⟨by decide, by decide, nI_nlt (Nat.zero_le _) (by omega), by omega, by omega⟩
  refine sC (by decide) rfl (go_in (e47_0_1 ⟨B 4 (by decide), B 12 (by decide), B 3 (by decide), B 3 (by decide), B 25 (by decide), B 84 (by decide), B 18 (by decide), B 400 (by decide), B 3 (by decide), rfl, rfl, fun k j hkj => ?_, fun j hj => ?_, ?_⟩))
  · have h := of_decide_eq_true hkj
    rcases h with ⟨rfl, h⟩ | ⟨rfl, h⟩ | ⟨rfl, h⟩ | ⟨rfl, h⟩ | ⟨rfl, h⟩ | ⟨rfl, h⟩ | ⟨rfl, h⟩ | ⟨rfl, h⟩ | ⟨rfl, h⟩
    · simp (disch := decide) only [cpI_k, cpJ_1, nI_c]
      rcases h with rfl | rfl | rfl | rfl | rfl | rfl | rfl | rfl | rfl | rfl
      all_goals
        first
        | rfl
        | (show _ = M.1 _ _; simp (disch := decide) only [sI_k, sI_j, sI_e]; rfl)
    all_goals
      simp (disch := decide) only [nI_c]
      show _ = M.1 _ _
      simp (disch := first | decide | omega) only [cpI_k, cpI_e, cpJ_1, sI_k]
      first
      | rfl
      | (simp (disch := first | decide | omega) only [show kI 33794 = 33858 from rfl, show kI 33798 = 33862 from rfl, show kI 33799 = 33863 from rfl, show kI 33800 = 33864 from rfl, show kI 33803 = 33867 from rfl, show kI 33807 = 33871 from rfl, show kI 33809 = 33873 from rfl, show kI 33810 = 33874 from rfl, cpI_k, cpI_e, cpJ_1, sI_k])
  · simp (disch := decide) only [nI_c]
    simp (disch := first | decide | omega) only [cpI_2, cpJ_e, sI_2]
  · exact (((((((((((((((((((Fr.rf.sI rfl).sI rfl).sI rfl).sI rfl).sI rfl).sI rfl).sI rfl).sI rfl).sI rfl).sI rfl).cpI (fun _ _ _ => rfl)).cpI (fun _ _ _ => rfl)).cpI (fun _ _ _ => rfl)).cpI (fun _ _ _ => rfl)).cpI (fun _ _ _ => rfl)).cpJ (fun _ _ _ => rfl)).cpI (fun _ _ _ => rfl)).cpI (fun _ _ _ => rfl)).cpI (fun _ _ _ => rfl))
theorem c47 : SC (d + 1) 47 [.ref 512, .ref 513] M (fun vs N => vs = [] ∧ (∀ k j, plB k j = true → N.1 k j = M.1 (kI k) j) ∧ (∀ j, j < 84 → N.2.1 33805 j = M.2.1 33869 j) ∧ Fr aTold M N) := by
  have B : ∀ n : Nat, n ≤ 400 → ¬ nI 0 < 0 ∧ ¬ nI 0 < 0 ∧ ¬ nI n < 0 ∧ (nI 0).toNatClampNeg + (nI n).toNatClampNeg ≤ n ∧ (nI 0).toNatClampNeg + (nI n).toNatClampNeg ≤ n := fun n hn => by
    rw [nI_c (by decide), nI_c (by omega)]
    exact ⟨by decide, by decide, nI_nlt (Nat.zero_le _) (by omega), by omega, by omega⟩
  refine sC (by decide) rfl (go_in (e47_0 ⟨B 4 (by decide), B 12 (by decide), B 3 (by decide), B 3 (by decide), B 25 (by decide), B 84 (by decide), B 18 (by decide), B 400 (by decide), B 3 (by decide), rfl, rfl, fun k j hkj => ?_, fun j hj => ?_, ?_⟩))
  · have h := of_decide_eq_true hkj
    rcases h with ⟨rfl, h⟩ | ⟨rfl, h⟩ | ⟨rfl, h⟩ | ⟨rfl, h⟩ | ⟨rfl, h⟩ | ⟨rfl, h⟩ | ⟨rfl, h⟩ | ⟨rfl, h⟩ | ⟨rfl, h⟩
    · simp (disch := decide) only [cpI_k, cpJ_1, nI_c]
      rcases h with rfl | rfl | rfl | rfl | rfl | rfl | rfl | rfl | rfl | rfl
      all_goals
        first
        | rfl
        | (show _ = M.1 _ _; simp (disch := decide) only [sI_k, sI_j, sI_e]; rfl)
    all_goals
      simp (disch := decide) only [nI_c]
      show _ = M.1 _ _
      simp (disch := first | decide | omega) only [cpI_k, cpI_e, cpJ_1, sI_k]
      first
      | rfl
      | (simp (disch := first | decide | omega) only [show kI 33794 = 33858 from rfl, show kI 33798 = 33862 from rfl, show kI 33799 = 33863 from rfl, show kI 33800 = 33864 from rfl, show kI 33803 = 33867 from rfl, show kI 33807 = 33871 from rfl, show kI 33809 = 33873 from rfl, show kI 33810 = 33874 from rfl, cpI_k, cpI_e, cpJ_1, sI_k])
  · simp (disch := decide) only [nI_c]
    simp (disch := first | decide | omega) only [cpI_2, cpJ_e, sI_2]
  · exact (((((((((((((((((((Fr.rf.sI rfl).sI rfl).sI rfl).sI rfl).sI rfl).sI rfl).sI rfl).sI rfl).sI rfl).sI rfl).cpI (fun _ _ _ => rfl)).cpI (fun _ _ _ => rfl)).cpI (fun _ _ _ => rfl)).cpI (fun _ _ _ => rfl)).cpI (fun _ _ _ => rfl)).cpJ (fun _ _ _ => rfl)).cpI (fun _ _ _ => rfl)).cpI (fun _ _ _ => rfl)).cpI (fun _ _ _ => rfl))
end IG
