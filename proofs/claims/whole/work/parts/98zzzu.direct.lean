/-! The law's calls that are compared at once, on both sides. -/
def PQ0 (L D r : Nat) (ras : List Value) (M : Mm) (vs : List Value) (N : Mm) : Prop := vs = [] ∧ (∀ j, N.1 70001 j = M.1 70001 j) ∧ SC D r ras N (fun us O => us = [] ∧ INV L O)
theorem aImR_A {k j : Nat} (h : aImR k j = true) : aRA k j = true := by
  unfold aImR at h
  simp only [Bool.or_eq_true, Bool.and_eq_true, Nat.beq_eq] at h
  exact decide_eq_true (by omega)
theorem aIm_A {k j : Nat} (h : aRA k j = true) : aIm k j = false := by
  have h := of_decide_eq_true h
  cases hq : aIm k j with
  | false => rfl
  | true =>
    unfold aIm aImg inO at hq
    simp only [Bool.or_eq_true, Bool.and_eq_true, Nat.beq_eq, Nat.ble_eq, Nat.blt_eq] at hq
    omega
theorem aIm_512 {k j : Nat} (h : inO 512 k = true) : aIm k j = false := by
  cases hq : aIm k j with
  | false => rfl
  | true =>
    unfold aIm aImg inO at hq
    unfold inO at h
    simp only [Bool.or_eq_true, Bool.and_eq_true, Nat.beq_eq, Nat.ble_eq, Nat.blt_eq] at hq h
    omega
section IV4
variable {L : Nat} {w w' w2 : Nat → Nat} {ta ta' ta2 : Nat → Nat → Nat → Nat} {tl tl' im : Nat} {tp tp' : Nat → Int} {fw fw' : Int32} {M N O : Mm}
variable {D e r mid : Nat} {cas ras : List Value}
theorem CRI.tape (X : CRI L w ta tl tp fw im w2 ta2 M) (hF : Fr aTape M N) (hC : CTp tl' tp' N) : CIv w ta tl' tp' fw im w2 ta2 N ∧ RIv w ta tl tp fw im w2 ta2 N ∧ N.1 70001 4000 = nI L ∧ ∀ j, N.1 70001 j = M.1 70001 j := X.half (hF.up fun _ _ => orO_t) (fun _ _ => aTape_A) rfl (fun _ _ hk => aTape_o (Or.inr hk)) (fun _ => rfl) (X.2.2.1.1.of hF fun k j hk => aTape_o (Or.inl hk)) hC ((hF _ _ rfl).1.trans X.2.2.1.2.2.1)
theorem CRI.tapR (hL : N.1 70001 4000 = nI L) (hb : WB w ∧ (im = 1 → WB w2) ∧ im ≤ 1) (hC : CIv w ta tl' tp' fw im w2 ta2 N) (hR0 : RIv w ta tl tp fw im w2 ta2 N) (hG : Fr aTapR N O) (hT : RTp tl' tp' O) : INV L O := CRI.both hL hb hC hR0 hG (fun _ _ => aTapR_A) rfl (fun _ => rfl) (hR0.1.of hG (fun _ => rfl) rfl rfl) hT ((hG _ _ rfl).1.trans hR0.2.2.1)
theorem qD (X : CRI L w ta tl tp fw im w2 ta2 M) {y : Int32} (hc : SC e mid cas M (fun vs N => vs = [.int y] ∧ Fr aCl M N)) (hr : ∀ N, CRI L w ta tl tp fw im w2 ta2 N → SC D r ras N (fun us O => us = [.int y] ∧ Fr aRe N O ∧ O.1 768 0 = nI 0)) : SC e mid cas M (PQd L D r ras M) := useC hc fun vs N q => by
  obtain ⟨rfl, hF⟩ := q
  have hF2 : Fr aCQ M N := hF.up fun _ _ q => aCl_q q
  have X2 := X.cq hF2
  refine ⟨y, rfl, fun j => (hF2 _ _ rfl).1, useC (hr _ X2) fun us O q => ?_⟩
  obtain ⟨rfl, hG, -⟩ := q
  exact ⟨rfl, (X2.rq hG).inv⟩
theorem p79 {a b c e f : Int32} (h : INV L M) : SC 40 79 [.ref 704, .int a, .int b, .int c, .int e, .int f] M (PQd L 40 146 [.ref 768, .int a, .int b, .int c, .int e, .int f] M) := by
  obtain ⟨w, ta, tl, tp, fw, im, w2, ta2, X⟩ := h
  have hC := X.2.2.1.2.1
  by_cases ht : tl ≤ 380
  · refine useC (upC (c79 (d := 0) hC ht) (by decide)) fun vs N q => ?_
    obtain ⟨rfl, hC2, hF⟩ := q
    obtain ⟨h1, h2, h3, h4⟩ := X.tape hF hC2
    refine ⟨_, rfl, h4, useC (upC (c146 (d := 0) h2.2.1 ht) (by decide)) fun us O q => ?_⟩
    obtain ⟨rfl, hT, hG, -⟩ := q
    exact ⟨rfl, CRI.tapR h3 X.2.1 h1 h2 hG hT⟩
  · exact qD X (useC (upC (v79 (d := 0) hC ht) (by decide)) fun _ _ q => ⟨q.1, q.2 ▸ Fr.rf⟩) fun N Y => a7r (upC (v146 (d := 0) Y.2.2.2.2.1 ht) (by decide))
theorem p80 {a : Int32} (h : INV L M) : SC 40 80 [.ref 704, .int a] M (PQd L 40 147 [.ref 768, .int a] M) := by
  obtain ⟨w, ta, tl, tp, fw, im, w2, ta2, X⟩ := h
  obtain ⟨a, ha, rfl⟩ := i_ex a
  have hC := X.2.2.1.2.1
  by_cases ht : 0 ≤ a ∧ a ≤ tl
  · obtain ⟨a, rfl⟩ : ∃ n : Nat, a = n := ⟨a.toNat, by omega⟩
    have ht2 : a ≤ tl := by omega
    refine useC (upC (c80 (d := 0) hC ht2) (by decide)) fun vs N q => ?_
    obtain ⟨rfl, hC2, hF⟩ := q
    obtain ⟨h1, h2, h3, h4⟩ := X.tape hF hC2
    refine ⟨_, rfl, h4, useC (upC (c147 (d := 0) h2.2.1 ht2) (by decide)) fun us O q => ?_⟩
    obtain ⟨rfl, hT, hG, -⟩ := q
    exact ⟨rfl, CRI.tapR h3 X.2.1 h1 h2 hG hT⟩
  · exact qD X (useC (upC (v80 (d := 0) hC ha ht) (by decide)) fun _ _ q => ⟨q.1, q.2 ▸ Fr.rf⟩) fun N Y => a7r (upC (v147 (d := 0) Y.2.2.2.2.1 ha ht) (by decide))
theorem p88 (h : INV L M) : SC 40 88 [.ref 704] M (PQd L 40 156 [.ref 768] M) := by
  obtain ⟨w, ta, tl, tp, fw, im, w2, ta2, X⟩ := h
  exact qD (y := fw) X (useC (upC (c88 (d := 0)) (by decide)) fun _ _ q => ⟨by rw [q.1, X.2.2.1.2.2.1], q.2 ▸ Fr.rf⟩) fun N Y => a7r (useC (upC (c156 (d := 0)) (by decide)) fun _ _ q => ⟨by rw [q.1, Y.2.2.2.2.2.1], q.2⟩)
theorem p100 (h : INV L M) : SC 40 100 [.ref 704] M (PQd L 40 193 [.ref 768] M) := by
  obtain ⟨w, ta, tl, tp, fw, im, w2, ta2, X⟩ := h
  exact qD X (upC (c100 (d := 0) X.tr X.wb) (by decide)) fun N Y => upC (c193 (d := 0) Y.ri.1 X.wb Y.ri.2.1 Y.ri.2.2) (by decide)
theorem p102 (h : INV L M) : SC 40 102 [.ref 704] M (PQd L 40 212 [.ref 768] M) := by
  obtain ⟨w, ta, tl, tp, fw, im, w2, ta2, X⟩ := h
  exact qD X (upC (c102 (d := 0) X.tr X.wb) (by decide)) fun N Y => upC (c212 (d := 0) Y.ri.1 X.wb Y.ri.2.1 Y.ri.2.2) (by decide)
theorem p95 {a : Int32} (h : INV L M) : SC 40 95 [.ref 704, .int a] M (PQd L 40 224 [.ref 768, .int a] M) := by
  obtain ⟨w, ta, tl, tp, fw, im, w2, ta2, X⟩ := h
  obtain ⟨a, ha, rfl⟩ := i_ex a
  exact qD X (upC (c95 (d := 0) X.tr X.wb ha) (by decide)) fun N Y => upC (c224 (d := 0) Y.ri X.wb ha) (by decide)
theorem p94 (h : INV L M) : SC 40 94 [.ref 704] M (PQd L 40 133 [.ref 768] M) := by
  obtain ⟨w, ta, tl, tp, fw, im, w2, ta2, X⟩ := h
  obtain rfl | rfl : im = 0 ∨ im = 1 := by have := X.2.1.2.2; omega
  · exact qD X (useC (upC (v94 (d := 0) X.2.2.1.2.2.2.1) (by decide)) fun _ _ q => ⟨q.1, q.2 ▸ Fr.rf⟩) fun N Y => a7r (upC (v133 (d := 0) Y.2.2.2.2.2.2.1) (by decide))
  · have hb2 : WB w2 := X.2.1.2.1 rfl
    have h11 : w2 11 ≤ 6 := hb2.2.2.2.1.2.2.2.1
    refine useC (upC (c94 (d := 0) (X.2.2.1.2.2.2.2 rfl) h11 X.2.2.1.2.2.2.1) (by decide)) fun vs N q => ?_
    obtain ⟨rfl, hT, hF⟩ := q
    obtain ⟨h1, h2, h3, h4⟩ := X.told (hF.up fun _ _ => orO_t) hT
    refine ⟨_, rfl, h4, useC (upC (c133 (d := 0) (h2.2.2.2.2 rfl) h11 h2.1.2.2 h2.2.2.2.1) (by decide)) fun us O q => ?_⟩
    obtain ⟨rfl, hR, -, hG⟩ := q
    exact ⟨rfl, CRI.wld h3 ⟨hb2, X.2.1.2⟩ h1 h2 hG hR⟩
theorem p93 (h : INV L M) : SC 40 93 [.ref 704] M (PQ0 L 40 132 [.ref 768] M) := by
  obtain ⟨w, ta, tl, tp, fw, im, w2, ta2, X⟩ := h
  have h11 : w 11 ≤ 6 := X.wb.2.2.2.1.2.2.2.1
  refine useC (upC (c93 (d := 0) X.2.2.1.1 h11) (by decide)) fun vs N q => ?_
  obtain ⟨rfl, hT, h10, hF⟩ := q
  have hN : CIv w ta tl tp fw 1 w ta N := ⟨X.2.2.1.1.of hF fun k j hk => aIm_512 hk, X.2.2.1.2.1.of hF rfl fun _ => rfl, (hF _ _ rfl).1.trans X.2.2.1.2.2.1, h10, fun _ => hT⟩
  have hR : RIv w ta tl tp fw im w2 ta2 N := X.2.2.2.other X.2.1.2.1 hF fun _ _ => aIm_A
  refine ⟨rfl, fun j => (hF _ _ rfl).1, useC (upC (c132 (d := 0) hR.1 h11) (by decide)) fun us O q => ?_⟩
  obtain ⟨rfl, hI, h3, -, hG⟩ := q
  have hG2 : Fr aRA N O := hG.up fun _ _ => aImR_A
  exact ⟨rfl, CRI.inv (w := w) (ta := ta) (tl := tl) (tp := tp) (fw := fw) (im := 1) (w2 := w) (ta2 := ta) ⟨(hG2 _ _ rfl).1.trans ((hF _ _ rfl).1.trans X.1), ⟨X.wb, fun _ => X.wb, Nat.le_refl _⟩, hN.of (fun _ => h11) hG2, hR.1.of hG (fun _ => rfl) rfl rfl, hR.2.1.of hG rfl fun _ => rfl, (hG _ _ rfl).1.trans hR.2.2.1, h3, fun _ => hI⟩⟩
end IV4
