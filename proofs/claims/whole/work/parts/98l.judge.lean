/-! The judge: the class's, its code. -/
section CJ
variable {d : Nat} {M : Mm} {y : Nat → Nat} {k : Int} {p q : Nat} {fo : Nat → Nat → Nat → Int} {wa : Nat → Nat → Nat → Nat}
theorem SLV.st {lo : Nat → Nat} {pay : Nat → Nat → Int} {N : Mm} (h : SLV 0 y p q lo pay M) (hF : Fr (aSt 1) M N) : SLV 0 y p q lo pay N := by
  obtain ⟨C, ⟨a, b, c⟩, e, g⟩ := h
  exact ⟨C, ⟨by rw [(hF 0 10 rfl).2.1]; exact a, by rw [(hF 0 11 rfl).2.1]; exact b, by rw [(hF 0 9 rfl).2.1]; exact c⟩, e, fun f hf l hl => by rw [(hF (1032 + 64 * 0) _ rfl).2.1]; exact g f hf l hl⟩
theorem aPB_cl : ∀ k j, aPumpBy k j = true → aCl k j = true := fun k j h => by
  unfold aPumpBy aWish aPump at h
  simp only [Bool.or_eq_true, Bool.and_eq_true, Nat.beq_eq] at h
  exact aCl_t.mpr (by omega)
theorem c18 (hb : YB y k) (hp : p < q) (hq : q ≤ 5) (hwa3 : ∀ b l f, wa b l f ≤ 3) (hfo : ∀ f l n, f < y 2 → l ≤ y 0 → n < 4 → bd 2448 (fo f l n)) (hJ : JS y k p q fo wa M) {f l b : Nat} (hf : f < y 2) (hl : l ≤ y 0) (hbb : b < 2) : SC (d + 6) 18 [.ref 128, .int (nI f), .int (nI l), .int (nI b)] M (fun vs N => vs = [.int (nI (cond (anB (eBY y k p q fo wa b f l) 4) 1 0))] ∧ Fr aPumpBy M N) := by
  rcases (show b = 0 ∨ b = 1 by omega) with e | e
  · subst e; exact c18_0 hb hp hq hwa3 hfo hJ hf hl
  · subst e; exact c18_1 hb hp hq hwa3 hfo hJ hf hl
def gYB (y : Nat → Nat) (k : Int) (p q : Nat) (fo : Nat → Nat → Nat → Int) (wa : Nat → Nat → Nat → Nat) (b f l : Nat) : Bool := anB (eBY y k p q fo wa b f l) 4
set_option maxHeartbeats 1000000 in
theorem c16 (hb : YB y k) (hp : p < q) (hq : q ≤ 5) (hwa3 : ∀ b l f, wa b l f ≤ 3) (hfo : ∀ f l n, f < y 2 → l ≤ y 0 → n < 4 → bd 2448 (fo f l n)) (hY : YC y k fo wa M) (h0 : FOL 0 y k fo wa M) (h1 : FOL 1 y k fo wa M) : SC (d + 7) 16 [.ref 128, .int (nI p), .int (nI q)] M (fun vs N => vs = [.int (iz (jdV (y 0) (y 2) (gYB y k p q fo wa)))] ∧ Fr aCl M N ∧ YC y k fo wa N ∧ FOL 0 y k fo wa N ∧ FOL 1 y k fo wa N) := by
  have hy2 := hb.2.1.1
  have hy0 := hb.1.2.1
  have hpb : ∀ s f l, f < y 2 → l < y 0 + 1 → i32 (paY y fo (wa s) f l) := fun s f l hf hl => bd_i32 (bd_le (paY_bd hfo hwa3 hf l hl) (by decide))
  obtain ⟨a0, b0, C0, B0, f0, g0⟩ := id h0
  refine sC (by decide) rfl (go_in (e16_0 (useC (upC (c17_0 (d := d) hY.1 hb a0 loY_le f0 g0 b0 (hpb 0) hp hq) (by omega)) fun vs N h => ?_)))
  obtain ⟨rfl, hF, hs0⟩ := h
  have hY1 := hY.of hF (by decide) (fun j => rfl) (fun j => rfl) (fun j => rfl)
  have h01 := h0.of0 hF (fun j => rfl) (fun j => rfl) (fun j => rfl)
  have h11 := h1.of1 hF (fun j => rfl) (fun j => rfl) (fun j => rfl)
  obtain ⟨a1, b1, C1, B1, f1, g1⟩ := id h11
  refine e16_10 (useC (upC (c17_1 (d := d) hY1.1 hb a1 loY_le f1 g1 b1 (hpb 1) hp hq) (by omega)) fun vs N2 h => ?_)
  obtain ⟨rfl, hF2, hs1⟩ := h
  have hY2 := hY1.of hF2 (by decide) (fun j => rfl) (fun j => rfl) (fun j => rfl)
  have h02 := h01.of0 hF2 (fun j => rfl) (fun j => rfl) (fun j => rfl)
  have h12 := h11.of1 hF2 (fun j => rfl) (fun j => rfl) (fun j => rfl)
  have hJ : JS y k p q fo wa N2 := ⟨hY2, hs0.st hF2, hs1⟩
  have hFc : Fr aCl M N2 := (hF.up (aSt_cl (by omega))).tr (hF2.up (aSt_cl (by omega)))
  refine e16_20 ?_
  have fin : ∀ N', Fr aPumpBy N2 N' → Fr aCl M N' ∧ YC y k fo wa N' ∧ FOL 0 y k fo wa N' ∧ FOL 1 y k fo wa N' := fun N' h => ⟨hFc.tr (h.up aPB_cl), hY2.of h aPB_640 (fun j => rfl) (fun j => rfl) (fun j => rfl), h02.of0 h (fun j => rfl) (fun j => rfl) (fun j => rfl), h12.of1 h (fun j => rfl) (fun j => rfl) (fun j => rfl)⟩
  have LB : ∀ k' (o1 o2 o4 o5 : Option Value) b N', b + k' = 2 → Fr aPumpBy N2 N' → (∀ i, i < (b * 8 + 0) * 4 + 0 → jdP (y 0) (y 2) (gYB y k p q fo wa) i = false) → WM (d + 6) 16 (fun vs N => vs = [.int (iz (jdV (y 0) (y 2) (gYB y k p q fo wa)))] ∧ Fr aCl M N ∧ YC y k fo wa N ∧ FOL 0 y k fo wa N ∧ FOL 1 y k fo wa N) 22 [some (.ref 128), o1, o2, some (.int (nI b)), o4, o5] [] N' := by
    intro k'
    induction k' with
    | zero =>
      intro o1 o2 o4 o5 b N' hk hF' hn
      refine go_in (e16_22 (br_t (nI_le (by omega) (by omega)) (go_in (e16_101 ?_))))
      rw [jdV_none fun i hi => hn i (by omega), nI_neg1]
      exact ⟨rfl, rfl, fin N' hF'⟩
    | succ k' ih =>
      intro o1 o2 o4 o5 b N' hk hF' hn
      refine go_in (e16_22 (br_f (nI_ge (by omega) (by omega)) ?_))
      have LL : ∀ k2 (o1 o2 o5 : Option Value) l N', l + k2 = y 0 + 1 → Fr aPumpBy N2 N' → (∀ i, i < (b * 8 + l) * 4 + 0 → jdP (y 0) (y 2) (gYB y k p q fo wa) i = false) → WM (d + 6) 16 (fun vs N => vs = [.int (iz (jdV (y 0) (y 2) (gYB y k p q fo wa)))] ∧ Fr aCl M N ∧ YC y k fo wa N ∧ FOL 0 y k fo wa N ∧ FOL 1 y k fo wa N) 30 [some (.ref 128), o1, o2, some (.int (nI b)), some (.int (nI l)), o5] [] N' := by
        intro k2
        induction k2 with
        | zero =>
          intro o1 o2 o5 l N' hk2 hF' hn
          refine go_in (e16_30 (br_t (by rw [(hJ.of hF').1.1.1.1]; exact nI_lt (by omega) (by omega)) (go_in (e16_95 ?_))))
          rw [nI_s]
          refine ih _ _ _ _ (b + 1) _ (by omega) hF' fun i hi => ?_
          by_cases e : i < (b * 8 + l) * 4 + 0
          · exact hn i e
          · exact jdP_no (by omega)
        | succ k2 ih2 =>
          intro o1 o2 o5 l N' hk2 hF' hn
          refine go_in (e16_30 (br_f (by rw [(hJ.of hF').1.1.1.1]; exact nI_nlt (by omega) (by omega)) ?_))
          have LF : ∀ k3 (o1 o2 : Option Value) f N', f + k3 = y 2 → Fr aPumpBy N2 N' → (∀ i, i < (b * 8 + l) * 4 + f → jdP (y 0) (y 2) (gYB y k p q fo wa) i = false) → WM (d + 6) 16 (fun vs N => vs = [.int (iz (jdV (y 0) (y 2) (gYB y k p q fo wa)))] ∧ Fr aCl M N ∧ YC y k fo wa N ∧ FOL 0 y k fo wa N ∧ FOL 1 y k fo wa N) 45 [some (.ref 128), o1, o2, some (.int (nI b)), some (.int (nI l)), some (.int (nI f))] [] N' := by
            intro k3
            induction k3 with
            | zero =>
              intro o1 o2 f N' hk3 hF' hn
              refine go_in (e16_45 (br_t (by rw [(hJ.of hF').1.1.1.2.2.1]; exact nI_le (by omega) (by omega)) (go_in (e16_89 ?_))))
              rw [nI_s]
              refine ih2 _ _ _ (l + 1) _ (by omega) hF' fun i hi => ?_
              by_cases e : i < (b * 8 + l) * 4 + f
              · exact hn i e
              · exact jdP_no (by omega)
            | succ k3 ih3 =>
              intro o1 o2 f N' hk3 hF' hn
              refine go_in (e16_45 (br_f (by rw [(hJ.of hF').1.1.1.2.2.1]; exact nI_ge (by omega) (by omega)) (useC (c18 hb hp hq hwa3 hfo (hJ.of hF') (show f < y 2 by omega) (show l ≤ y 0 by omega) (show b < 2 by omega)) fun vs N3 h => ?_)))
              obtain ⟨rfl, hF3⟩ := h
              have hF4 := hF'.tr hF3
              cases hg : anB (eBY y k p q fo wa b f l) 4 with
              | false =>
                refine e16_66 ⟨fun _ => go_in (e16_83 ?_), fun z => absurd rfl z⟩
                rw [nI_s]
                refine ih3 _ _ (f + 1) _ (by omega) hF4 fun i hi => ?_
                by_cases e : i < (b * 8 + l) * 4 + f
                · exact hn i e
                · have : i = (b * 8 + l) * 4 + f := by omega
                  rw [this, jdP_at (by omega) (by omega) (by omega) (by omega)]
                  exact hg
              | true =>
                refine e16_66 ⟨fun z => absurd z (by decide), fun _ => ?_⟩
                rw [jdV_some (show b < 2 by omega) (show l ≤ y 0 by omega) (by omega) (show f < y 2 by omega) (by omega) hn hg, nI_mul, nI_mul, nI_add, nI_add, iz_n]
                refine ⟨rfl, ?_, fin _ hF4⟩
                congr 3
          exact LF (y 2) _ _ 0 _ (by omega) hF' hn
      exact LL (y 0 + 1) _ _ _ 0 _ (by omega) hF' hn
  exact LB 2 _ _ _ _ 0 N2 (by omega) Fr.rf fun i hi => absurd hi (by omega)
end CJ
section CK
variable {d : Nat} {M : Mm} {w : Nat → Nat} {ta : Nat → Nat → Nat → Nat}
theorem gYB_gnB (w : Nat → Nat) (ta : Nat → Nat → Nat → Nat) : gYB (yW w (w 10)) (kW w) (w 6) (w 7) (foW w (w 10) (cstW w)) (waW w ta) = gnB w ta := by
  have hU : ∀ s, eUY (yW w (w 10)) (kW w) (w 6) (w 7) (waW w ta) s = elU w ta s := fun s => by
    unfold eUY elU
    rw [dY_dtW, Int.mul_comm]
    rfl
  have hX : ∀ s V f l, eXY (yW w (w 10)) (kW w) (w 6) (w 7) (foW w (w 10) (cstW w)) (waW w ta) s V f l = elX w ta s V f l := fun s V f l => by
    unfold eXY elX
    rw [← hU s]
    unfold eUY
    have e : uY (yW w (w 10)) (w 6) (w 7) (loY (yW w (w 10)) (kW w) (waW w ta s)) (paY (yW w (w 10)) (foW w (w 10) (cstW w)) (waW w ta s) f) = uWo w (w 10) (waW w ta s) f := by
      funext l
      exact uY_uWo w (w 10) (waW w ta s) f l
    rw [e, Int.mul_assoc, Int.mul_comm (w 6 : Int)]
    rfl
  have hE : ∀ b f l n, eBY (yW w (w 10)) (kW w) (w 6) (w 7) (foW w (w 10) (cstW w)) (waW w ta) b f l n = elB w ta b f l n := fun b f l n => by
    unfold eBY elB
    rw [hU, hX, dY_dtW, uY_uWo]
    rfl
  funext b f l
  unfold gYB gnB
  congr 1
  funext n
  exact hE b f l n
theorem c100 (hT : TR 512 w ta M) (hb : WB w) : SC (d + 8) 100 [.ref 704] M (fun vs N => vs = [.int (iz (jdV (w 0) (w 8) (gnB w ta)))] ∧ Fr aCl M N) := by
  have w10 : w 10 < w 9 := hb.2.2.2.1.2.2.1
  have w67 := hb.2.2.1
  have hyB := yB_of hb w10
  refine sC (by decide) rfl (go_in (e100_0 (useC (upC (c61 (d := d) hT hb) (by omega)) fun vs N h => ?_)))
  obtain ⟨rfl, hF, hY⟩ := h
  have hYC : YC (yW w (w 10)) (kW w) (foW w (w 10) (cstW w)) (waW w ta) N := ⟨hY.1, hY.2.1, hY.2.2.2⟩
  refine e100_11 (useC (upC (c15 (d := d) hYC hyB (fun b l f => wbd_le)) (by omega)) fun vs N2 h => ?_)
  obtain ⟨rfl, hF2, hY2, h0, h1⟩ := h
  refine e100_18 ?_
  rw [hY2.1.2.1.1, hY2.1.2.1.2.1]
  refine useC (c16 (d := d) (fo := foW w (w 10) (cstW w)) (wa := waW w ta) hyB w67.2.1 w67.2.2 (fun b l f => wbd_le) (fun f l n h1 h2 h3 => foW_bd hb w10 h1 (show l ≤ 7 by have : yW w (w 10) 0 = w 0 := rfl; have := (wb_w hb).1; omega) (show n ≤ 3 by omega)) hY2 h0 h1) fun vs N3 h => ?_
  obtain ⟨rfl, hF3, -⟩ := h
  refine e100_39 ⟨rfl, ?_, ((hF.up aYr_cl).tr hF2).tr hF3⟩
  rw [← gYB_gnB w ta]
  rfl
end CK
