/-! Pacts, out of range. -/
section PO
variable {d : Nat} {M : Mm} {w : Nat → Nat} {ta : Nat → Nat → Nat → Nat}
theorem t101 (hT : TR 512 w ta M) (hb : WB w) {a : Int} (ha : i32 a) (h : ¬ (0 ≤ a ∧ a < w 11)) : ST (d + 2) 101 [.ref 704, .int (iz a)] M (fun E N => E = 1 ∧ N = M) := by
  have w11 : w 11 ≤ 6 := hb.2.2.2.1.2.2.2.1
  refine sT (by decide) (by decide) (by decide +kernel) rfl (go_inE (e101_0 (Or.inr ?_)))
  show ST (d + 1) 119 _ _ _
  rw [hT.1.2.2.1, iz_n]
  exact useT (t119 ha ⟨by omega, by omega⟩ (by omega)) fun E N q => ⟨by omega, q⟩
theorem c211t (hw : MR w M) (hb : WB w) {a : Int} (ha : i32 a) (h : ¬ (0 ≤ a ∧ a < w 11)) : SC (d + 3) 211 [.ref 768, .int (iz a)] M (fun vs N => vs = [.int (nI 0)] ∧ Fr aRe M N ∧ N.1 768 0 = nI 1) := by
  refine sC (by decide) rfl (go_in (e211_0 ?_))
  obtain ⟨M1, hM1⟩ : ∃ M1, M1 = sI M 768 0 (nI 0) := ⟨_, rfl⟩
  have hF1 : Fr aRe M M1 := by rw [hM1]; exact Fr.rf.sI rfl
  rw [← hM1]
  have hw1 := hw.of hF1 (fun j _ => rfl)
  refine useC (upC (c139 (d := d) hw1 hb ha) (by omega)) fun vs N q => ?_
  obtain ⟨rfl, rfl⟩ := q
  rw [if_neg h]
  refine e211_11 (useC (upC (c130t (d := d)) (by omega)) fun vs N q => ?_)
  obtain ⟨rfl, rfl⟩ := q
  exact e211_15 ⟨fun e => absurd e (by decide), fun _ => ⟨rfl, rfl, hF1.sI rfl, by rw [sI_v, if_pos ⟨rfl, rfl⟩]⟩⟩
end PO
