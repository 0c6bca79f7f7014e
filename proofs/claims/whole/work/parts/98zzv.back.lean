/-! image and back, on both sides. -/
def aIm (k j : Nat) : Bool := aImg k j || (Nat.beq k 704 && Nat.beq j 10)
def aImR (k j : Nat) : Bool := Nat.beq k 50178 || (Nat.beq k 768 && (Nat.beq j 0 || Nat.beq j 3))
def IMR (w : Nat → Nat) (ta : Nat → Nat → Nat → Nat) (M : Mm) : Prop := MR w (imM M) ∧ DRel w ta (imM M)
theorem plB_kI {k j : Nat} (h : plB k j = true) : kI k ≠ 704 := by
  have h := of_decide_eq_true h
  rcases h with ⟨rfl, h⟩ | ⟨rfl, h⟩ | ⟨rfl, h⟩ | ⟨rfl, h⟩ | ⟨rfl, h⟩ | ⟨rfl, h⟩ | ⟨rfl, h⟩ | ⟨rfl, h⟩ | ⟨rfl, h⟩
  all_goals decide
theorem MR_eq {w : Nat → Nat} {M N : Mm} (h : MR w M) (he : ∀ j, j < 475 → N.1 50177 j = M.1 50177 j) : MR w N := fun i hi => (he i hi).trans (h i hi)
section IB
variable {d : Nat} {M : Mm} {w : Nat → Nat} {ta : Nat → Nat → Nat → Nat}
theorem c93 (h : TI w ta M) (hb : w 11 ≤ 6) : SC (d + 2) 93 [.ref 704] M (fun vs N => vs = [] ∧ TI w ta (shM N) ∧ N.1 704 10 = nI 1 ∧ Fr aIm M N) := by
  refine sC (by decide) rfl (go_in (e93_0 (useC c47k fun vs N q => ?_)))
  obtain ⟨rfl, h1, h2, hF⟩ := q
  refine e93_11 ⟨Or.inr rfl, rfl, rfl, TI_eq h hb (fun k j hkj => ?_) h2, sI_e _ _ _ _, (hF.up fun k j q => by unfold aIm; rw [q]; rfl).sI rfl⟩
  show (sI N 704 10 (nI 1)).1 (kI k) j = _
  rw [sI_k _ _ (plB_kI hkj)]
  exact h1 k j hkj
theorem c94 (h : TI w ta (shM M)) (hb : w 11 ≤ 6) (hi : M.1 704 10 = nI 1) : SC (d + 2) 94 [.ref 704] M (fun vs N => vs = [.int (nI 1)] ∧ TI w ta N ∧ Fr aTold M N) := by
  refine sC (by decide) rfl (go_in (e94_0 ?_))
  rw [hi]
  refine ⟨fun _ => go_in (e94_9 (useC c47 fun vs N q => ?_)), fun q => absurd q (by decide)⟩
  obtain ⟨rfl, h1, h2, hF⟩ := q
  exact e94_20 ⟨Or.inr rfl, rfl, rfl, TI_eq h hb h1 h2, hF⟩
theorem v94 (hi : M.1 704 10 = nI 0) : SC (d + 2) 94 [.ref 704] M (fun vs N => vs = [.int (nI 0)] ∧ N = M) := by
  refine sC (by decide) rfl (go_in (e94_0 ?_))
  rw [hi]
  exact ⟨fun q => absurd rfl q, fun _ => ⟨Or.inl rfl, rfl, rfl, rfl⟩⟩
theorem c132 (h : RI w ta M) (hb : w 11 ≤ 6) : SC (d + 1) 132 [.ref 768] M (fun vs N => vs = [] ∧ IMR w ta N ∧ N.1 768 3 = nI 1 ∧ N.1 768 0 = nI 0 ∧ Fr aImR M N) := by
  refine sC (by decide) rfl (go_in (e132_0 ?_))
  have loop : ∀ k i N, i + k = 5461 → (∀ j, j < i → N.1 50178 j = M.1 50177 j) → N.1 768 0 = nI 0 → Fr aImR M N → WM d 132 (fun vs N => vs = [] ∧ IMR w ta N ∧ N.1 768 3 = nI 1 ∧ N.1 768 0 = nI 0 ∧ Fr aImR M N) 7 [some (.ref 768), some (.int (nI i))] [] N := by
    intro k
    induction k with
    | zero =>
      intro i N hi hC h0 hF
      have hi : i = 5461 := by omega
      subst hi
      refine go_in (e132_7 (br_t (nI_le (Nat.le_refl _) (by decide)) (go_in (e132_32 ⟨Or.inr rfl, rfl, rfl, ⟨MR_eq h.1 fun j hj => ?_, DRel_eq h.2.1 hb fun j _ hj => ?_⟩, sI_e _ _ _ _, ?_, hF.sI rfl⟩))))
      · show (sI N 768 3 (nI 1)).1 50178 j = _
        rw [sI_k _ _ (by decide)]
        exact hC j (by omega)
      · show (sI N 768 3 (nI 1)).1 50178 j = _
        rw [sI_k _ _ (by decide)]
        exact hC j (by omega)
      · rw [sI_j _ _ (by decide)]
        exact h0
    | succ k ih =>
      intro i N hi hC h0 hF
      refine go_in (e132_7 (br_f (nI_ge (by omega) (by decide)) ⟨nI_in2 (by omega) (by decide), nI_in2 (by omega) (by decide), ?_⟩))
      rw [nI_c (by omega), nI_s]
      refine ih (i + 1) _ (by omega) (fun j hj => ?_) (by rw [sI_k _ _ (by decide)]; exact h0) (hF.sI rfl)
      by_cases e : j = i
      · subst e
        rw [sI_e, (hF 50177 j rfl).1]
      · rw [sI_j _ _ e]
        exact hC j (by omega)
  exact loop 5461 0 _ (by omega) (fun j hj => absurd hj (Nat.not_lt_zero _)) rfl (Fr.rf.sI rfl)
theorem c133 (h : IMR w ta M) (hb : w 11 ≤ 6) (hp : NP M) (hi : M.1 768 3 = nI 1) : SC (d + 1) 133 [.ref 768] M (fun vs N => vs = [.int (nI 1)] ∧ RI w ta N ∧ N.1 768 0 = nI 0 ∧ Fr aWld M N) := by
  refine sC (by decide) rfl (go_in (e133_0 ?_))
  rw [sI_j _ _ (by decide), hi]
  refine ⟨fun _ => go_in (e133_14 ?_), fun q => absurd q (by decide)⟩
  have loop : ∀ k i N, i + k = 5461 → (∀ j, j < i → N.1 50177 j = M.1 50178 j) → N.1 768 0 = nI 0 → Fr aWld M N → WM d 133 (fun vs N => vs = [.int (nI 1)] ∧ RI w ta N ∧ N.1 768 0 = nI 0 ∧ Fr aWld M N) 16 [some (.ref 768), some (.int (nI i))] [] N := by
    intro k
    induction k with
    | zero =>
      intro i N hi hC h0 hF
      have hi : i = 5461 := by omega
      subst hi
      exact go_in (e133_16 (br_t (nI_le (Nat.le_refl _) (by decide)) (go_in (e133_41 ⟨Or.inr rfl, rfl, rfl, ⟨MR_eq (M := imM M) h.1 fun j hj => hC j (by omega), DRel_eq (M := imM M) h.2 hb fun j _ hj => hC j (by omega), hp.of hF rfl rfl⟩, h0, hF⟩))))
    | succ k ih =>
      intro i N hi hC h0 hF
      refine go_in (e133_16 (br_f (nI_ge (by omega) (by decide)) ⟨nI_in2 (by omega) (by decide), nI_in2 (by omega) (by decide), ?_⟩))
      rw [nI_c (by omega), nI_s]
      refine ih (i + 1) _ (by omega) (fun j hj => ?_) (by rw [sI_k _ _ (by decide)]; exact h0) (hF.sI rfl)
      by_cases e : j = i
      · subst e
        rw [sI_e, (hF 50178 j rfl).1]
      · rw [sI_j _ _ e]
        exact hC j (by omega)
  exact loop 5461 0 _ (by omega) (fun j hj => absurd hj (Nat.not_lt_zero _)) rfl (Fr.rf.sI rfl)
theorem v133 (hi : M.1 768 3 = nI 0) : SC (d + 1) 133 [.ref 768] M (fun vs N => vs = [.int (nI 0)] ∧ Fr a7 M N ∧ N.1 768 0 = nI 0) := by
  refine sC (by decide) rfl (go_in (e133_0 ?_))
  rw [sI_j _ _ (by decide), hi]
  exact ⟨fun q => absurd rfl q, fun _ => ⟨Or.inl rfl, rfl, rfl, Fr.rf.sI rfl, rfl⟩⟩
end IB
