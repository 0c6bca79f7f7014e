/-! The reference's run, out of range. -/
section RO
variable {d : Nat} {M : Mm} {w : Nat → Nat} {ta : Nat → Nat → Nat → Nat}
theorem k137 (hw : MR w M) (hb : WB w) {a : Int} {Q : List Value → Mm → Prop} (ha : i32 a) (h : 0 ≤ a ∧ a ≤ w 0) (k : Q [.int (nI 0)] M) : SC (d + 2) 137 [.ref 768, .int (iz a)] M Q :=
  useC (c137 hw hb ha) fun vs N q => by
    obtain ⟨rfl, q⟩ := q
    have q := q.symm
    subst q
    rw [if_pos h]
    exact k
theorem f137 (hw : MR w M) (hb : WB w) {a : Int} {Q : List Value → Mm → Prop} (ha : i32 a) (h : ¬ (0 ≤ a ∧ a ≤ w 0)) (k : Q [.int (nI 1)] M) : SC (d + 2) 137 [.ref 768, .int (iz a)] M Q :=
  useC (c137 hw hb ha) fun vs N q => by
    obtain ⟨rfl, q⟩ := q
    have q := q.symm
    subst q
    rw [if_neg h]
    exact k
theorem c223t (hw : MR w M) (hb : WB w) {l n k : Int} {sd tl : Int32} (hl : i32 l) (h : ¬ (0 ≤ l ∧ l ≤ w 0)) (ht : tl = 0 ∨ tl = 1) : SC (d + 3) 223 [.ref 768, .int (iz l), .int (iz n), .int sd, .int tl, .int (iz k)] M (fun vs N => vs = [.int (nI 0)] ∧ Fr a7 M N ∧ N.1 768 0 = nI 1) :=
  sC (by decide) (by rcases ht with rfl | rfl <;> rfl) (go_in (e223_0 (f137 (hw.z _) hb hl h (e223_11 (f130 (e223_15 ⟨fun _ => go_in (e223_65 ⟨rfl, rfl, (Fr.rf.sI rfl).sI rfl, rfl⟩), fun q => absurd q (by decide)⟩))))))
theorem c223u (hw : MR w M) (hb : WB w) {l n k : Int} {sd tl : Int32} (hl : i32 l) (h : 0 ≤ l ∧ l ≤ w 0) (hn : i32 n) (h2 : ¬ (0 ≤ n ∧ n ≤ 100)) (ht : tl = 0 ∨ tl = 1) : SC (d + 3) 223 [.ref 768, .int (iz l), .int (iz n), .int sd, .int tl, .int (iz k)] M (fun vs N => vs = [.int (nI 0)] ∧ Fr a7 M N ∧ N.1 768 0 = nI 2) := by
  refine sC (by decide) (by rcases ht with rfl | rfl <;> rfl) (go_in (e223_0 (k137 (hw.z _) hb hl h (e223_11 (k130 (e223_15 ⟨fun q => absurd rfl q, fun _ => ?_⟩))))))
  refine f131n hn (by decide) (by decide) (by omega) (e223_26 ⟨fun q => absurd rfl q, fun _ => go_in (e223_34 (f130 ?_))⟩)
  exact e223_38 ⟨fun _ => go_in (e223_65 ⟨rfl, rfl, (Fr.rf.sI rfl).sI rfl, rfl⟩), fun q => absurd q (by decide)⟩
theorem c223v (hw : MR w M) (hb : WB w) {l n k : Int} {sd tl : Int32} (hl : i32 l) (h : 0 ≤ l ∧ l ≤ w 0) (hn : i32 n) (h2 : 0 ≤ n ∧ n ≤ 100) (hk : i32 k) (h3 : ¬ (0 ≤ k ∧ k ≤ 7)) (ht : tl = 0 ∨ tl = 1) : SC (d + 3) 223 [.ref 768, .int (iz l), .int (iz n), .int sd, .int tl, .int (iz k)] M (fun vs N => vs = [.int (nI 0)] ∧ Fr a7 M N ∧ N.1 768 0 = nI 3) := by
  refine sC (by decide) (by rcases ht with rfl | rfl <;> rfl) (go_in (e223_0 (k137 (hw.z _) hb hl h (e223_11 (k130 (e223_15 ⟨fun q => absurd rfl q, fun _ => ?_⟩))))))
  refine k131n hn (by decide) (by decide) (by omega) (e223_26 ⟨fun _ => go_in (e223_33 (go_in (e223_34 (k130 ?_)))), fun q => absurd q (by decide)⟩)
  refine e223_38 ⟨fun q => absurd rfl q, fun _ => ?_⟩
  refine f131n hk (by decide) (by decide) (by omega) (e223_50 ⟨fun q => absurd rfl q, fun _ => go_in (e223_58 (f130 ?_))⟩)
  exact e223_62 ⟨fun q => absurd q (by decide), fun _ => go_in (e223_65 ⟨rfl, rfl, (Fr.rf.sI rfl).sI rfl, rfl⟩)⟩
end RO
