/-! What stands between two steps of the law. -/
def aCA (k _ : Nat) : Bool := decide (k < 768 ∨ (1024 ≤ k ∧ k < 50176))
def aRA (k _ : Nat) : Bool := decide (k = 768 ∨ (50176 ≤ k ∧ k < 50240))
/-- the class's half -/
def CIv (w : Nat → Nat) (ta : Nat → Nat → Nat → Nat) (tl : Nat) (tp : Nat → Int) (fw : Int32) (im : Nat) (w2 : Nat → Nat) (ta2 : Nat → Nat → Nat → Nat) (M : Mm) : Prop := TI w ta M ∧ CTp tl tp M ∧ M.1 704 11 = fw ∧ M.1 704 10 = nI im ∧ (im = 1 → TI w2 ta2 (shM M))
/-- the reference's half -/
def RIv (w : Nat → Nat) (ta : Nat → Nat → Nat → Nat) (tl : Nat) (tp : Nat → Int) (fw : Int32) (im : Nat) (w2 : Nat → Nat) (ta2 : Nat → Nat → Nat → Nat) (M : Mm) : Prop := RI w ta M ∧ RTp tl tp M ∧ M.1 768 10 = fw ∧ M.1 768 3 = nI im ∧ (im = 1 → IMR w2 ta2 M)
def XIv (L : Nat) (xs : Nat → Int32) (M : Mm) : Prop := M.1 70001 4000 = nI L ∧ ∀ j, j < L → M.1 70001 j = xs j
section IV
variable {w w2 : Nat → Nat} {ta ta2 : Nat → Nat → Nat → Nat} {tl im : Nat} {tp : Nat → Int} {fw : Int32} {M N : Mm}
theorem plB_513 {k j : Nat} (h : plB k j = true) : aRA (kI k) j = false := by
  have h := of_decide_eq_true h
  rcases h with ⟨rfl, h⟩ | ⟨rfl, h⟩ | ⟨rfl, h⟩ | ⟨rfl, h⟩ | ⟨rfl, h⟩ | ⟨rfl, h⟩ | ⟨rfl, h⟩ | ⟨rfl, h⟩ | ⟨rfl, h⟩
  all_goals rfl
theorem CIv.of (h : CIv w ta tl tp fw im w2 ta2 M) (hb : im = 1 → w2 11 ≤ 6) (hF : Fr aRA M N) : CIv w ta tl tp fw im w2 ta2 N := by
  obtain ⟨h1, h2, h3, h4, h5⟩ := h
  refine ⟨h1.of hF fun k j hk => ?_, ⟨(hF 384 1 rfl).1.trans h2.1, h2.2.1, h2.2.2.1, fun j hj => (hF 25600 j rfl).1.trans (h2.2.2.2 j hj)⟩, (hF _ _ rfl).1.trans h3, (hF _ _ rfl).1.trans h4, fun hi => TI_eq (h5 hi) (hb hi) (fun k j hk => (hF _ _ (plB_513 hk)).1) fun j _ => (hF 33869 j rfl).2.1⟩
  unfold inO at hk
  simp only [Bool.or_eq_true, Bool.and_eq_true, Nat.beq_eq, Nat.ble_eq, Nat.blt_eq] at hk
  exact decide_eq_false (by omega)
theorem RIv.of (h : RIv w ta tl tp fw im w2 ta2 M) (hb : im = 1 → w2 11 ≤ 6) (hF : Fr aCA M N) : RIv w ta tl tp fw im w2 ta2 N := by
  obtain ⟨h1, h2, h3, h4, h5⟩ := h
  exact ⟨h1.of hF (fun j => rfl) rfl rfl, ⟨(hF 768 5 rfl).1.trans h2.1, h2.2.1, h2.2.2.1, fun j hj => (hF 50180 j rfl).1.trans (h2.2.2.2 j hj)⟩, (hF _ _ rfl).1.trans h3, (hF _ _ rfl).1.trans h4, fun hi => ⟨MR_eq (M := imM M) (h5 hi).1 fun j _ => (hF 50178 j rfl).1, DRel_eq (M := imM M) (h5 hi).2 (hb hi) fun j _ _ => (hF 50178 j rfl).1⟩⟩
theorem XIv.of {L : Nat} {xs : Nat → Int32} {P : Nat → Nat → Bool} (h : XIv L xs M) (hF : Fr P M N) (h0 : ∀ j, P 70001 j = false) : XIv L xs N := ⟨(hF _ _ (h0 _)).1.trans h.1, fun j hj => (hF _ _ (h0 _)).1.trans (h.2 j hj)⟩
end IV
