/-! The law's calls that tell, on both sides. -/
def orO (P : Nat → Nat → Bool) (k j : Nat) : Bool := P k j || Nat.beq k 70000
theorem orO_f {P : Nat → Nat → Bool} {k j : Nat} (h : P k j = false) (hk : k ≠ 70000) : orO P k j = false := by
  unfold orO
  rw [h]
  cases hq : Nat.beq k 70000 with
  | true => exact absurd (Nat.eq_of_beq_eq_true hq) hk
  | false => rfl
theorem orO_t {P : Nat → Nat → Bool} {k j : Nat} (h : P k j = true) : orO P k j = true := by unfold orO; rw [h]; rfl
theorem if_b (p q : Nat) : (if p = q then 0 else 1) = cond (!(p == q)) 1 0 := by
  by_cases h : p = q
  · subst h
    rw [if_pos rfl, beq_self_eq_true]
    rfl
  · rw [if_neg h, beq_false_of_ne h]
    rfl
theorem aTold_A {k j : Nat} (h : aRA k j = true) : aTold k j = false := by
  have h := of_decide_eq_true h
  cases hq : aTold k j with
  | false => rfl
  | true =>
    unfold aTold inO at hq
    simp only [Bool.or_eq_true, Bool.and_eq_true, Nat.beq_eq, Nat.ble_eq, Nat.blt_eq] at hq
    omega
theorem aTold_513 {k j : Nat} (h : inO 513 k = true) : aTold k j = false := by
  cases hq : aTold k j with
  | false => rfl
  | true =>
    unfold aTold inO at hq
    unfold inO at h
    simp only [Bool.or_eq_true, Bool.and_eq_true, Nat.beq_eq, Nat.ble_eq, Nat.blt_eq] at hq h
    omega
theorem aTape_A {k j : Nat} (h : aRA k j = true) : aTape k j = false := by
  have h := of_decide_eq_true h
  cases hq : aTape k j with
  | false => rfl
  | true =>
    unfold aTape at hq
    simp only [Bool.or_eq_true, Nat.beq_eq] at hq
    omega
theorem aTape_o {k j : Nat} (h : inO 512 k = true ∨ inO 513 k = true) : aTape k j = false := by
  cases hq : aTape k j with
  | false => rfl
  | true =>
    unfold aTape at hq
    unfold inO at h
    simp only [Bool.or_eq_true, Bool.and_eq_true, Nat.beq_eq, Nat.ble_eq, Nat.blt_eq] at hq h
    omega
theorem aRwC_A {k j : Nat} (h : aRA k j = true) : aRwC k j = false := by unfold aRwC; rw [aTold_A h, aTape_A h]; rfl
theorem aRwC_513 {k j : Nat} (h : inO 513 k = true) : aRwC k j = false := by unfold aRwC; rw [aTold_513 h, aTape_o (Or.inr h)]; rfl
theorem aDrw_A {k j : Nat} (h : aRA k j = true) : aDrw k j = false := by
  have h := of_decide_eq_true h
  cases hq : aDrw k j with
  | false => rfl
  | true =>
    unfold aDrw aRead inO at hq
    simp only [Bool.or_eq_true, Bool.and_eq_true, Nat.beq_eq, Nat.ble_eq, Nat.blt_eq] at hq
    omega
theorem aDrw_513 {k j : Nat} (h : inO 513 k = true) : aDrw k j = false := by
  cases hq : aDrw k j with
  | false => rfl
  | true =>
    unfold aDrw aRead inO at hq
    unfold inO at h
    simp only [Bool.or_eq_true, Bool.and_eq_true, Nat.beq_eq, Nat.ble_eq, Nat.blt_eq] at hq h
    omega
theorem aWld_A {k j : Nat} (h : aWld k j = true) : aRA k j = true := by
  unfold aWld at h
  simp only [Bool.or_eq_true, Bool.and_eq_true, Nat.beq_eq] at h
  exact decide_eq_true (by omega)
theorem aTapR_A {k j : Nat} (h : aTapR k j = true) : aRA k j = true := by
  unfold aTapR at h
  simp only [Bool.or_eq_true, Bool.and_eq_true, Nat.beq_eq] at h
  exact decide_eq_true (by omega)
theorem aUse_A {k j : Nat} (h : aUse k j = true) : aRA k j = true := by
  unfold aUse at h
  simp only [Bool.or_eq_true, Bool.and_eq_true, Nat.beq_eq] at h
  exact decide_eq_true (by omega)
theorem aRwR_A {k j : Nat} (h : aRwR k j = true) : aRA k j = true := by
  unfold aRwR aUse at h
  simp only [Bool.or_eq_true, Bool.and_eq_true, Nat.beq_eq] at h
  exact decide_eq_true (by omega)
theorem aDrR_A {k j : Nat} (h : aDrR k j = true) : aRA k j = true := by
  unfold aDrR at h
  simp only [Bool.or_eq_true, Bool.and_eq_true, Nat.beq_eq, Nat.ble_eq] at h
  exact decide_eq_true (by omega)
theorem aRp_A {k j : Nat} (h : aRp k j = true) : aRA k j = true := by
  unfold aRp aRe at h
  simp only [Bool.or_eq_true, Bool.and_eq_true, Nat.beq_eq, decide_eq_true_eq] at h
  exact decide_eq_true (by omega)
section IV3
variable {L : Nat} {w w' w2 : Nat → Nat} {ta ta' ta2 : Nat → Nat → Nat → Nat} {tl tl' im : Nat} {tp tp' : Nat → Int} {fw fw' : Int32} {M N O : Mm} {P : Nat → Nat → Bool}
theorem TI.out (h : TI w ta M) {y : Int64} : TI w ta (sJ M 70000 0 y) := h.of (P := fun k _ => Nat.beq k 70000) (Fr.rf.sJ rfl) fun k j hk => by
  cases hq : Nat.beq k 70000 with
  | false => rfl
  | true =>
    have := Nat.eq_of_beq_eq_true hq
    subst this
    exact absurd hk (by decide)
/-- the class has told, the reference not yet -/
theorem CRI.half (X : CRI L w ta tl tp fw im w2 ta2 M) (hF : Fr (orO P) M N) (hP : ∀ k j, aRA k j = true → P k j = false) (h10 : P 704 10 = false) (h513 : ∀ k j, inO 513 k = true → P k j = false) (hX : ∀ j, P 70001 j = false) (hT : TI w' ta' N) (hC : CTp tl' tp' N) (hf : N.1 704 11 = fw') : CIv w' ta' tl' tp' fw' im w2 ta2 N ∧ RIv w ta tl tp fw im w2 ta2 N ∧ N.1 70001 4000 = nI L ∧ ∀ j, N.1 70001 j = M.1 70001 j := by
  refine ⟨X.2.2.1.upd X.2.1.2.1 hF (orO_f h10 (by decide)) (fun k j hk => orO_f (h513 k j hk) fun e => ?_) hT hC hf, X.2.2.2.other X.2.1.2.1 hF fun k j hk => orO_f (hP k j hk) fun e => ?_, (hF _ _ (orO_f (hX _) (by decide))).1.trans X.1, fun j => (hF _ _ (orO_f (hX _) (by decide))).1⟩
  · subst e
    exact absurd hk (by decide)
  · subst e
    exact absurd (of_decide_eq_true hk : 70000 = 768 ∨ (50176 ≤ 70000 ∧ 70000 < 50240)) (by decide)
theorem CRI.both (hL : N.1 70001 4000 = nI L) (hb : WB w' ∧ (im = 1 → WB w2) ∧ im ≤ 1) (hC : CIv w' ta' tl' tp' fw' im w2 ta2 N) (hR0 : RIv w ta tl tp fw im w2 ta2 N) (hG : Fr P N O) (hP : ∀ k j, P k j = true → aRA k j = true) (h3 : P 768 3 = false) (h178 : ∀ j, P 50178 j = false) (hR : RI w' ta' O) (hT : RTp tl' tp' O) (hf : O.1 768 10 = fw') : INV L O := by
  have hG2 : Fr aRA N O := hG.up hP
  exact CRI.inv (w := w') (ta := ta') (tl := tl') (tp := tp') (fw := fw') (im := im) (w2 := w2) (ta2 := ta2) ⟨(hG2 _ _ rfl).1.trans hL, hb, hC.of (fun hi => (hb.2.1 hi).2.2.2.1.2.2.2.1) hG2, hR0.upd hb.2.1 hG h3 h178 hR hT hf⟩
theorem CRI.told (X : CRI L w ta tl tp fw im w2 ta2 M) (hF : Fr (orO aTold) M N) (hT : TI w' ta' N) : CIv w' ta' tl tp fw im w2 ta2 N ∧ RIv w ta tl tp fw im w2 ta2 N ∧ N.1 70001 4000 = nI L ∧ ∀ j, N.1 70001 j = M.1 70001 j := X.half hF (fun _ _ => aTold_A) rfl (fun _ _ => aTold_513) (fun _ => rfl) hT (X.2.2.1.2.1.of hF rfl fun _ => rfl) ((hF _ _ rfl).1.trans X.2.2.1.2.2.1)
theorem CRI.wld (hL : N.1 70001 4000 = nI L) (hb : WB w' ∧ (im = 1 → WB w2) ∧ im ≤ 1) (hC : CIv w' ta' tl tp fw im w2 ta2 N) (hR0 : RIv w ta tl tp fw im w2 ta2 N) (hG : Fr aWld N O) (hR : RI w' ta' O) : INV L O := CRI.both hL hb hC hR0 hG (fun _ _ => aWld_A) rfl (fun _ => rfl) hR (hR0.2.1.of hG rfl fun _ => rfl) ((hG _ _ rfl).1.trans hR0.2.2.1)
variable {D e r k mid : Nat} {cas ras : List Value}
theorem eV (X : CRI L w ta tl tp fw im w2 ta2 M) (hb : WB w') (hc : SC e mid cas M (fun vs N => vs = [] ∧ TI w' ta' N ∧ Fr aTold M N)) (hr : ∀ N, RI w ta N → SC D r ras N (fun us O => us = [] ∧ RI w' ta' O ∧ Fr aWld N O ∧ O.1 768 0 = nI 0)) : SC e mid cas M (fun vs N => vs = [] ∧ PQv L D r ras M [.int (nI 0)] N) := useC hc fun vs N q => by
  obtain ⟨rfl, hT, hF⟩ := q
  obtain ⟨h1, h2, h3, h4⟩ := X.told (hF.up fun _ _ => orO_t) hT
  refine ⟨rfl, 0, by decide, rfl, h4, useC (hr _ h2.1) fun us O q => ?_⟩
  obtain ⟨rfl, hR, hG, h0⟩ := q
  exact ⟨rfl, h0, CRI.wld h3 ⟨hb, X.2.1.2⟩ h1 h2 hG hR⟩
theorem eI (X : CRI L w ta tl tp fw im w2 ta2 M) (hb : WB w') {y : Int32} (hc : SC e mid cas M (fun vs N => vs = [.int y] ∧ TI w' ta' N ∧ Fr aTold M N)) (hr : ∀ N, RI w ta N → SC D r ras N (fun us O => us = [.int y] ∧ RI w' ta' O ∧ Fr aWld N O ∧ O.1 768 0 = nI 0)) : SC e mid cas M (fun vs N => ∃ y, vs = [.int y] ∧ PQi L D r ras M [.int (nI 0)] (sJ N 70000 0 y.toInt64)) := useC hc fun vs N q => by
  obtain ⟨rfl, hT, hF⟩ := q
  obtain ⟨h1, h2, h3, h4⟩ := X.told ((hF.up fun _ _ => orO_t).sJ (v := y.toInt64) (k := 70000) (j := 0) rfl) hT.out
  refine ⟨y, rfl, 0, by decide, rfl, h4, useC (hr _ h2.1) fun us O q => ?_⟩
  obtain ⟨rfl, hR, hG, h0⟩ := q
  exact ⟨y, rfl, fun _ => (hG _ _ rfl).2.1.trans (sJ_e _ _ _ _), h0, CRI.wld h3 ⟨hb, X.2.1.2⟩ h1 h2 hG hR⟩
theorem eB (X : CRI L w ta tl tp fw im w2 ta2 M) (hb : WB w') {y : Nat} {b : Bool} (hy : y = cond b 1 0) (hc : SC e mid cas M (fun vs N => vs = [.int (nI y)] ∧ TI w' ta' N ∧ Fr aTold M N)) (hr : ∀ N, RI w ta N → SC D r ras N (fun us O => us = [.int (nI y)] ∧ RI w' ta' O ∧ Fr aWld N O ∧ O.1 768 0 = nI 0)) : SC e mid cas M (fun vs N => ∃ b : Bool, vs = [.int (nI (cond b 1 0))] ∧ PQb L D r ras M [.int (nI 0)] (sJ N 70000 0 (lN (cond b 1 0)))) := useC hc fun vs N q => by
  subst hy
  obtain ⟨rfl, hT, hF⟩ := q
  obtain ⟨h1, h2, h3, h4⟩ := X.told ((hF.up fun _ _ => orO_t).sJ (v := lN (cond b 1 0)) (k := 70000) (j := 0) rfl) hT.out
  refine ⟨b, rfl, 0, by decide, rfl, h4, useC (hr _ h2.1) fun us O q => ?_⟩
  obtain ⟨rfl, hR, hG, h0⟩ := q
  exact ⟨b, rfl, fun _ => (hG _ _ rfl).2.1.trans (sJ_e _ _ _ _), h0, CRI.wld h3 ⟨hb, X.2.1.2⟩ h1 h2 hG hR⟩
theorem p234 {a b : Int32} (h : INV L M) : SC 40 234 [.ref 704, .int a, .int b] M (PQv L 40 140 [.ref 768, .int a, .int b] M) := by
  obtain ⟨w, ta, tl, tp, fw, im, w2, ta2, X⟩ := h
  obtain ⟨a, ha, rfl⟩ := i_ex a
  obtain ⟨b, hb, rfl⟩ := i_ex b
  by_cases hr : (1 ≤ a ∧ a ≤ 7) ∧ (-1 ≤ b ∧ b ≤ 7)
  · obtain ⟨a, rfl⟩ : ∃ n : Nat, a = n := ⟨a.toNat, by omega⟩
    obtain ⟨b, rfl⟩ : ∃ n : Nat, b = (n : Int) - 1 := ⟨(b + 1).toNat, by omega⟩
    exact c234 (eV X (WB_well X.wb (by omega) (by omega)) (upC (c81 (d := 0) X.2.2.1.1 (by omega) (by omega)) (by decide)) fun N hI => upC (c140 (d := 0) hI (by omega) (by omega)) (by decide))
  · exact t234 (tV (v := 1) X (upT (t81 (d := 0) ha hb hr) (by decide)) rfl (by decide) (a7r (upC (c140t (d := 0) ha hb hr) (by decide))))
theorem p235 {a b c e : Int32} (h : INV L M) : SC 40 235 [.ref 704, .int a, .int b, .int c, .int e] M (PQv L 40 141 [.ref 768, .int a, .int b, .int c, .int e] M) := by
  obtain ⟨w, ta, tl, tp, fw, im, w2, ta2, X⟩ := h
  obtain ⟨a, ha, rfl⟩ := i_ex a
  obtain ⟨b, hb, rfl⟩ := i_ex b
  obtain ⟨c, hc, rfl⟩ := i_ex c
  obtain ⟨e, he, rfl⟩ := i_ex e
  by_cases hr : (0 ≤ a ∧ a ≤ 4) ∧ (0 ≤ b ∧ b ≤ 4) ∧ (0 ≤ c ∧ c ≤ 4) ∧ (0 ≤ e ∧ e ≤ 4) ∧ (1 ≤ a + b + c + e ∧ a + b + c + e ≤ 4)
  · obtain ⟨a, rfl⟩ : ∃ n : Nat, a = n := ⟨a.toNat, by omega⟩
    obtain ⟨b, rfl⟩ : ∃ n : Nat, b = n := ⟨b.toNat, by omega⟩
    obtain ⟨c, rfl⟩ : ∃ n : Nat, c = n := ⟨c.toNat, by omega⟩
    obtain ⟨e, rfl⟩ : ∃ n : Nat, e = n := ⟨e.toNat, by omega⟩
    exact c235 (eV X (WB_rain X.wb (by omega) (by omega)) (upC (c82 (d := 0) X.2.2.1.1 (by omega) (by omega)) (by decide)) fun N hI => upC (c141 (d := 0) hI (by omega) (by omega)) (by decide))
  · exact t235 (tV (v := 1) X (upT (t82 (d := 0) ha hb hc he hr) (by decide)) rfl (by decide) (a7r (upC (c141t (d := 0) ha hb hc he hr) (by decide))))
theorem p236 {a b : Int32} (h : INV L M) : SC 40 236 [.ref 704, .int a, .int b] M (PQv L 40 142 [.ref 768, .int a, .int b] M) := by
  obtain ⟨w, ta, tl, tp, fw, im, w2, ta2, X⟩ := h
  obtain ⟨a, ha, rfl⟩ := i_ex a
  obtain ⟨b, hb, rfl⟩ := i_ex b
  by_cases hr : (2 ≤ b ∧ b ≤ 5) ∧ (1 ≤ a ∧ a ≤ b - 1)
  · obtain ⟨a, rfl⟩ : ∃ n : Nat, a = n := ⟨a.toNat, by omega⟩
    obtain ⟨b, rfl⟩ : ∃ n : Nat, b = n := ⟨b.toNat, by omega⟩
    exact c236 (eV X (WB_years X.wb (by omega)) (upC (c83 (d := 0) X.2.2.1.1 (by omega)) (by decide)) fun N hI => upC (c142 (d := 0) hI (by omega)) (by decide))
  · exact t236 (tV (v := 1) X (upT (t83 (d := 0) ha hb hr) (by decide)) rfl (by decide) (a7r (upC (c142t (d := 0) ha hb hr) (by decide))))
theorem p263 {a b c : Int32} (h : INV L M) : SC 40 263 [.ref 704, .int a, .int b, .int c] M (PQv L 40 219 [.ref 768, .int a, .int b, .int c] M) := by
  obtain ⟨w, ta, tl, tp, fw, im, w2, ta2, X⟩ := h
  obtain ⟨a, ha, rfl⟩ := i_ex a
  obtain ⟨b, hb, rfl⟩ := i_ex b
  obtain ⟨c, hc, rfl⟩ := i_ex c
  by_cases hr : (1 ≤ a ∧ a ≤ 7) ∧ (0 ≤ b ∧ b ≤ a) ∧ (0 ≤ c ∧ c ≤ 3)
  · obtain ⟨a, rfl⟩ : ∃ n : Nat, a = n := ⟨a.toNat, by omega⟩
    obtain ⟨b, rfl⟩ : ∃ n : Nat, b = n := ⟨b.toNat, by omega⟩
    obtain ⟨c, rfl⟩ : ∃ n : Nat, c = n := ⟨c.toNat, by omega⟩
    exact c263 (eV X (WB_beside X.wb (by omega)) (upC (c92 (d := 0) X.2.2.1.1 (by omega) (by omega) (by omega)) (by decide)) fun N hI => upC (c219 (d := 0) hI (by omega) (by omega) (by omega)) (by decide))
  · exact t263 (tV (v := 1) X (upT (t92 (d := 0) ha hb hc hr) (by decide)) rfl (by decide) (a7r (upC (c219t (d := 0) ha hb hc hr) (by decide))))
theorem p237 {a b c e : Int32} (h : INV L M) : SC 40 237 [.ref 704, .int a, .int b, .int c, .int e, .ref 70000] M (PQi L 40 143 [.ref 768, .int a, .int b, .int c, .int e] M) := by
  obtain ⟨w, ta, tl, tp, fw, im, w2, ta2, X⟩ := h
  obtain ⟨a, ha, rfl⟩ := i_ex a
  obtain ⟨b, hb, rfl⟩ := i_ex b
  obtain ⟨c, hc, rfl⟩ := i_ex c
  obtain ⟨e, he, rfl⟩ := i_ex e
  by_cases hr : (0 ≤ a ∧ a ≤ 99) ∧ (0 ≤ b ∧ b ≤ 99) ∧ (0 ≤ c ∧ c ≤ 99) ∧ (0 ≤ e ∧ e ≤ 9)
  · obtain ⟨a, rfl⟩ : ∃ n : Nat, a = n := ⟨a.toNat, by omega⟩
    obtain ⟨b, rfl⟩ : ∃ n : Nat, b = n := ⟨b.toNat, by omega⟩
    obtain ⟨c, rfl⟩ : ∃ n : Nat, c = n := ⟨c.toNat, by omega⟩
    obtain ⟨e, rfl⟩ : ∃ n : Nat, e = n := ⟨e.toNat, by omega⟩
    by_cases h8 : w 8 < 3
    · exact c237 (eI X (WB_farm X.wb h8 (by omega)) (upC (c84 (d := 0) X.2.2.1.1 X.wb h8 (by omega)) (by decide)) fun N hI => upC (c143 (d := 0) hI X.wb h8 (by omega)) (by decide))
    · exact t237 (tI (v := 2) X (upT (u84 (d := 0) X.2.2.1.1 X.wb h8 (by omega)) (by decide)) rfl (by decide) (by decide) (a7r (upC (c143u (d := 0) X.ri X.wb h8 (by omega)) (by decide))))
  · exact t237 (tI (v := 1) X (upT (t84 (d := 0) ha hb hc he hr) (by decide)) rfl (by decide) (by decide) (a7r (upC (c143t (d := 0) ha hb hc he hr) (by decide))))
theorem p238 {a b c e f : Int32} (h : INV L M) : SC 40 238 [.ref 704, .int a, .int b, .int c, .int e, .int f, .ref 70000] M (PQi L 40 144 [.ref 768, .int a, .int b, .int c, .int e, .int f] M) := by
  obtain ⟨w, ta, tl, tp, fw, im, w2, ta2, X⟩ := h
  obtain ⟨a, ha, rfl⟩ := i_ex a
  obtain ⟨b, hb, rfl⟩ := i_ex b
  obtain ⟨c, hc, rfl⟩ := i_ex c
  obtain ⟨e, he, rfl⟩ := i_ex e
  obtain ⟨f, hf, rfl⟩ := i_ex f
  by_cases hr : (0 ≤ a ∧ a ≤ 9) ∧ (0 ≤ b ∧ b ≤ 7) ∧ (0 ≤ c ∧ c ≤ 3) ∧ (0 ≤ e ∧ e ≤ 99) ∧ (0 ≤ f ∧ f ≤ 4)
  · obtain ⟨a, rfl⟩ : ∃ n : Nat, a = n := ⟨a.toNat, by omega⟩
    obtain ⟨b, rfl⟩ : ∃ n : Nat, b = n := ⟨b.toNat, by omega⟩
    obtain ⟨c, rfl⟩ : ∃ n : Nat, c = n := ⟨c.toNat, by omega⟩
    obtain ⟨e, rfl⟩ : ∃ n : Nat, e = n := ⟨e.toNat, by omega⟩
    obtain ⟨f, rfl⟩ : ∃ n : Nat, f = n := ⟨f.toNat, by omega⟩
    by_cases h9 : w 9 < 5
    · exact c238 (eI X (WB_rule X.wb h9 (by omega)) (upC (c85 (d := 0) X.2.2.1.1 X.wb h9 (by omega)) (by decide)) fun N hI => upC (c144 (d := 0) hI X.wb h9 (by omega)) (by decide))
    · exact t238 (tI (v := 2) X (upT (u85 (d := 0) X.2.2.1.1 X.wb h9 (by omega)) (by decide)) rfl (by decide) (by decide) (a7r (upC (c144u (d := 0) X.ri X.wb h9 (by omega)) (by decide))))
  · exact t238 (tI (v := 1) X (upT (t85 (d := 0) ha hb hc he hf hr) (by decide)) rfl (by decide) (by decide) (a7r (upC (c144t (d := 0) ha hb hc he hf hr) (by decide))))
theorem p239 {a : Int32} (h : INV L M) : SC 40 239 [.ref 704, .int a, .ref 70000] M (PQb L 40 145 [.ref 768, .int a] M) := by
  obtain ⟨w, ta, tl, tp, fw, im, w2, ta2, X⟩ := h
  obtain ⟨a, ha, rfl⟩ := i_ex a
  by_cases hr : 0 ≤ a ∧ a < w 9
  · obtain ⟨a, rfl⟩ : ∃ n : Nat, a = n := ⟨a.toNat, by omega⟩
    have hr2 : a < w 9 := by omega
    exact c239 (eB X (WB_force X.wb hr2) (if_b (w 10) a) (upC (c86 (d := 0) X.2.2.1.1 X.wb hr2) (by decide)) fun N hI => upC (c145 (d := 0) hI X.wb hr2) (by decide))
  · exact t239 (tBb (v := 1) (b := false) X (upT (t86 (d := 0) X.2.2.1.1 X.wb ha hr) (by decide)) rfl (by decide) (by decide) (a7r (upC (c145t (d := 0) X.ri X.wb ha hr) (by decide))))
theorem p241 {a b : Int32} (h : INV L M) : SC 40 241 [.ref 704, .int a, .int b, .ref 70000] M (PQb L 40 168 [.ref 768, .int a, .int b] M) := by
  obtain ⟨w, ta, tl, tp, fw, im, w2, ta2, X⟩ := h
  obtain ⟨a, ha, rfl⟩ := i_ex a
  obtain ⟨b, hb, rfl⟩ := i_ex b
  by_cases hr : (0 ≤ a ∧ a < w 8) ∧ (-1 ≤ b ∧ b < w 11)
  · obtain ⟨a, rfl⟩ : ∃ n : Nat, a = n := ⟨a.toNat, by omega⟩
    obtain ⟨b, rfl⟩ : ∃ n : Nat, b = (n : Int) - 1 := ⟨(b + 1).toNat, by omega⟩
    have hr2 : a < w 8 := by omega
    have hr3 : b ≤ w 11 := by omega
    exact c241 (eB X (WB_by X.wb hr2 hr3) (if_b (w (21 + 5 * a)) b) (upC (c89 (d := 0) X.2.2.1.1 X.wb hr2 hr3) (by decide)) fun N hI => upC (c168 (d := 0) hI X.wb hr2 hr3) (by decide))
  · exact t241 (tBb (v := 1) (b := false) X (upT (t89 (d := 0) X.2.2.1.1 X.wb ha hb hr) (by decide)) rfl (by decide) (by decide) (a7r (upC (c168t (d := 0) X.ri X.wb ha hb hr) (by decide))))
theorem p256 {a b c : Int32} (h : INV L M) : SC 40 256 [.ref 704, .int a, .int b, .int c, .ref 70000] M (PQi L 40 220 [.ref 768, .int a, .int b, .int c] M) := by
  obtain ⟨w, ta, tl, tp, fw, im, w2, ta2, X⟩ := h
  obtain ⟨a, ha, rfl⟩ := i_ex a
  obtain ⟨b, hb, rfl⟩ := i_ex b
  obtain ⟨c, hc, rfl⟩ := i_ex c
  by_cases hr : 0 ≤ b ∧ b < w 8
  · by_cases hn : (0 ≤ a ∧ a ≤ 99) ∧ (0 ≤ c ∧ c ≤ 3)
    · obtain ⟨a, rfl⟩ : ∃ n : Nat, a = n := ⟨a.toNat, by omega⟩
      obtain ⟨b, rfl⟩ : ∃ n : Nat, b = n := ⟨b.toNat, by omega⟩
      obtain ⟨c, rfl⟩ : ∃ n : Nat, c = n := ⟨c.toNat, by omega⟩
      by_cases h12 : w 12 < 6
      · exact c256 (eI X (WB_broken X.wb h12 (by omega)) (upC (c90 (d := 0) X.2.2.1.1 X.wb (by omega) h12) (by decide)) fun N hI => upC (c220 (d := 0) hI X.wb (by omega) h12) (by decide))
      · exact c256 (qI X (upC (useC (v90 (d := 0) X.2.2.1.1 X.wb (by omega) h12) fun _ _ q => ⟨q.1, q.2 ▸ Fr.rf⟩) (by decide)) fun N hI => a7r (upC (c220v (d := 0) hI X.wb (by omega) h12) (by decide)))
    · exact t256 (tI (v := 2) X (upT (u90 (d := 0) X.2.2.1.1 X.wb ha hb hc hr hn) (by decide)) rfl (by decide) (by decide) (a7r (upC (c220u (d := 0) X.ri X.wb ha hb hc hr hn) (by decide))))
  · exact t256 (tI (v := 1) X (upT (t90 (d := 0) X.2.2.1.1 X.wb ha hb hc hr) (by decide)) rfl (by decide) (by decide) (a7r (upC (c220t (d := 0) X.ri X.wb ha hb hc hr) (by decide))))
theorem p258 {a b c f : Int32} {e : Bool} (h : INV L M) : SC 40 258 [.ref 704, .int a, .int b, .int c, .int (nI (cond e 1 0)), .int f, .ref 70000] M (PQi L 40 223 [.ref 768, .int a, .int b, .int c, .int (nI (cond e 1 0)), .int f] M) := by
  obtain ⟨w, ta, tl, tp, fw, im, w2, ta2, X⟩ := h
  obtain ⟨a, ha, rfl⟩ := i_ex a
  obtain ⟨b, hb, rfl⟩ := i_ex b
  obtain ⟨f, hf, rfl⟩ := i_ex f
  have he : nI (cond e 1 0) = 0 ∨ nI (cond e 1 0) = 1 := by cases e; exact Or.inl rfl; exact Or.inr rfl
  by_cases hr : 0 ≤ a ∧ a ≤ w 0
  · by_cases hn : 0 ≤ b ∧ b ≤ 100
    · by_cases hk : 0 ≤ f ∧ f ≤ 7
      · obtain ⟨a, rfl⟩ : ∃ n : Nat, a = n := ⟨a.toNat, by omega⟩
        obtain ⟨b, rfl⟩ : ∃ n : Nat, b = n := ⟨b.toNat, by omega⟩
        obtain ⟨f, rfl⟩ : ∃ n : Nat, f = n := ⟨f.toNat, by omega⟩
        simp only [← iz_n]
        exact c258 (qI X (upC (c116 (d := 0) X.tr X.wb (by omega) (by omega) (by omega)) (by decide)) fun N hI => upC (c223 (d := 0) hI.1 X.wb hI.2.1 hI.2.2 (by omega) (by omega) (by omega)) (by decide))
      · exact t258 (tI (v := 3) X (upT (v116 (d := 0) X.tr X.wb ha hb hf hr hn hk) (by decide)) rfl (by decide) (by decide) (a7r (upC (c223v (d := 0) X.ri.1 X.wb ha hr hb hn hf hk he) (by decide))))
    · exact t258 (tI (v := 2) X (upT (u116 (d := 0) X.tr X.wb ha hb hr hn) (by decide)) rfl (by decide) (by decide) (a7r (upC (c223u (d := 0) X.ri.1 X.wb ha hr hb hn he) (by decide))))
  · exact t258 (tI (v := 1) X (upT (t116 (d := 0) (n := 0) (what := 0) X.tr X.wb ha hr) (by decide)) rfl (by decide) (by decide) (a7r (upC (c223t (d := 0) X.ri.1 X.wb ha hr he) (by decide))))
theorem p254 {a : Int32} (h : INV L M) : SC 40 254 [.ref 704, .int a, .ref 70000] M (PQi L 40 211 [.ref 768, .int a] M) := by
  obtain ⟨w, ta, tl, tp, fw, im, w2, ta2, X⟩ := h
  obtain ⟨a, ha, rfl⟩ := i_ex a
  by_cases hr : 0 ≤ a ∧ a < w 11
  · obtain ⟨a, rfl⟩ : ∃ n : Nat, a = n := ⟨a.toNat, by omega⟩
    have hr2 : a < w 11 := by omega
    simp only [← iz_n]
    refine c254 (useC (upC (c101 (d := 0) X.tr X.wb hr2) (by decide)) fun vs N q => ?_)
    obtain ⟨rfl, hF⟩ := q
    have hF2 : Fr aCQ M (sJ N 70000 0 (nI (pkm (pcB w ta a) 4)).toInt64) := (hF.up fun _ _ q => aCl_q q).sJ rfl
    have X2 := X.cq hF2
    refine ⟨_, rfl, 0, by decide, rfl, fun j => (hF2 _ _ rfl).1, useC (upC (c211 (d := 0) X2.ri.1 X.wb X2.ri.2.1 hr2) (by decide)) fun us O q => ?_⟩
    obtain ⟨rfl, hG, h0, hNP⟩ := q
    exact ⟨_, rfl, fun _ => (hG _ _ rfl).2.1.trans (sJ_e _ _ _ _), h0, CRI.both X2.1 X2.2.1 X2.2.2.1 X2.2.2.2 hG (fun _ _ => aRp_A) rfl (fun _ => rfl) ⟨X2.ri.1.of hG fun j _ => rfl, X2.ri.2.1.of hG fun j => rfl, hNP⟩ (X2.2.2.2.2.1.of hG rfl fun _ => rfl) ((hG _ _ rfl).1.trans X2.2.2.2.2.2.1)⟩
  · exact t254 (tI (v := 1) X (upT (t101 (d := 0) X.tr X.wb ha hr) (by decide)) rfl (by decide) (by decide) (upC (c211t (d := 0) X.ri.1 X.wb ha hr) (by decide)))
theorem p257 (h : INV L M) : SC 40 257 [.ref 704, .ref 70000] M (PQi L 40 221 [.ref 768] M) := by
  obtain ⟨w, ta, tl, tp, fw, im, w2, ta2, X⟩ := h
  have hC := X.2.2.1.2.1
  by_cases ho : okR tp tl
  · refine c257 (useC (upC (c91 (d := 0) X.2.2.1.1 X.wb hC ho) (by decide)) fun vs N q => ?_)
    obtain ⟨rfl, hT, hC2, hF⟩ := q
    have hF2 : Fr (orO aRwC) M (sJ N 70000 0 (nI tl).toInt64) := (hF.up fun _ _ => orO_t).sJ rfl
    obtain ⟨h1, h2, h3, h4⟩ := X.half (tl' := 0) (tp' := tp) (fw' := fw) hF2 (fun _ _ => aRwC_A) rfl (fun _ _ => aRwC_513) (fun _ => rfl) hT.out hC2 ((hF2 _ _ rfl).1.trans X.2.2.1.2.2.1)
    refine ⟨_, rfl, 0, by decide, rfl, h4, useC (upC (c221 (d := 0) h2.1 X.wb h2.2.1 ho) (by decide)) fun us O q => ?_⟩
    obtain ⟨rfl, hR, hT2, hG, h0⟩ := q
    exact ⟨_, rfl, fun _ => (hG _ _ rfl).2.1.trans (sJ_e _ _ _ _), h0, CRI.both h3 ⟨WB_row X.wb hC.2.1 (fun j hj => by have := ho j hj; unfold rwT; omega : ∀ j, j < tl → rwT tp j ≤ 3), X.2.1.2⟩ h1 h2 hG (fun _ _ => aRwR_A) rfl (fun _ => rfl) hR hT2 ((hG _ _ rfl).1.trans h2.2.2.1)⟩
  · refine t257 (useT (upT (t91 (d := 0) hC ho) (by decide)) fun E N q => ?_)
    obtain ⟨rfl, rfl⟩ := q
    have hF2 : Fr (orO aTape) M (sI M 384 1 (nI 0)) := Fr.rf.sI rfl
    obtain ⟨h1, h2, h3, h4⟩ := X.half (tl' := 0) (tp' := tp) (fw' := fw) hF2 (fun _ _ => aTape_A) rfl (fun _ _ hk => aTape_o (Or.inr hk)) (fun _ => rfl) (X.2.2.1.1.of hF2 fun k j hk => orO_f (aTape_o (Or.inl hk)) fun e => by subst e; exact absurd hk (by decide)) (hC.cut (Nat.zero_le _)) ((hF2 _ _ rfl).1.trans X.2.2.1.2.2.1)
    refine ⟨1, rfl, 1, by decide, rfl, h4, useC (upC (c221t (d := 0) h2.2.1 ho) (by decide)) fun us O q => ?_⟩
    obtain ⟨rfl, hT2, hG, h0⟩ := q
    exact ⟨_, rfl, fun z => absurd z (by decide), h0, CRI.both h3 X.2.1 h1 h2 hG (fun _ _ => aUse_A) rfl (fun _ => rfl) (h2.1.of hG (fun _ => rfl) rfl rfl) hT2 ((hG _ _ rfl).1.trans h2.2.2.1)⟩
theorem p240 (h : INV L M) : SC 40 240 [.ref 704, .ref 70000] M (PQi L 40 167 [.ref 768] M) := by
  obtain ⟨w, ta, tl, tp, fw, im, w2, ta2, X⟩ := h
  have hC := X.2.2.1.2.1
  cases hp : pText (tkk tp tl) (nnk tp tl) with
  | inl e =>
    refine t240 (useT (upT (t87 (d := 0) X.2.2.1.1 hC hp) (by decide)) fun E N q => ?_)
    obtain ⟨rfl, hC2, hf, hT, hF⟩ := q
    obtain ⟨h1, h2, h3, h4⟩ := X.half (tl' := 0) (tp' := tp) (hF.up fun _ _ => orO_t) (fun _ _ => aDrw_A) rfl (fun _ _ => aDrw_513) (fun _ => rfl) hT hC2 hf
    refine ⟨1, rfl, 1, by decide, rfl, h4, useC (upC (c167t (d := 0) h2.1 X.wb h2.2.1 hp) (by decide)) fun us O q => ?_⟩
    obtain ⟨rfl, hR, hT2, hf2, h0, hG⟩ := q
    exact ⟨_, rfl, fun z => absurd z (by decide), h0, CRI.both h3 X.2.1 h1 h2 hG (fun _ _ => aDrR_A) rfl (fun _ => rfl) hR hT2 hf2⟩
  | inr x =>
    obtain ⟨j, c, ls⟩ := x
    by_cases h11 : w 11 < 6
    · refine c240 (useC (upC (c87 (d := 0) X.2.2.1.1 X.wb hC h11 hp) (by decide)) fun vs N q => ?_)
      obtain ⟨rfl, ⟨ta', hta, hT⟩, hC2, hf, hF⟩ := q
      have hF2 : Fr (orO aDrw) M (sJ N 70000 0 (nI (w 11)).toInt64) := (hF.up fun _ _ => orO_t).sJ rfl
      obtain ⟨h1, h2, h3, h4⟩ := X.half (tl' := 0) (tp' := tp) (fw' := iz (-1)) hF2 (fun _ _ => aDrw_A) rfl (fun _ _ => aDrw_513) (fun _ => rfl) hT.out hC2 hf
      refine ⟨_, rfl, 0, by decide, rfl, h4, useC (upC (c167 (d := 0) h2.1 X.wb h11 h2.2.1 hp hta) (by decide)) fun us O q => ?_⟩
      obtain ⟨rfl, hR, hT2, hf2, h0, hG⟩ := q
      exact ⟨_, rfl, fun _ => (hG _ _ rfl).2.1.trans (sJ_e _ _ _ _), h0, CRI.both h3 ⟨WB_draw X.wb h11, X.2.1.2⟩ h1 h2 hG (fun _ _ => aDrR_A) rfl (fun _ => rfl) hR hT2 hf2⟩
    · refine t240 (useT (upT (u87 (d := 0) X.2.2.1.1 X.wb hC h11 hp) (by decide)) fun E N q => ?_)
      obtain ⟨rfl, hC2, hf, hT, hF⟩ := q
      obtain ⟨h1, h2, h3, h4⟩ := X.half (tl' := 0) (tp' := tp) (hF.up fun _ _ => orO_t) (fun _ _ => aDrw_A) rfl (fun _ _ => aDrw_513) (fun _ => rfl) hT hC2 hf
      refine ⟨2, rfl, 2, by decide, rfl, h4, useC (upC (c167u (d := 0) h2.1 X.wb h11 h2.2.1 hp) (by decide)) fun us O q => ?_⟩
      obtain ⟨rfl, hR, hT2, hf2, h0, hG⟩ := q
      exact ⟨_, rfl, fun z => absurd z (by decide), h0, CRI.both h3 X.2.1 h1 h2 hG (fun _ _ => aDrR_A) rfl (fun _ => rfl) hR hT2 hf2⟩
end IV3
