/-! The class's pacts. -/
theorem frs_lt {p : Nat → Bool} : ∀ {n k}, frs p n = some k → k < n
  | 0, k, h => by cases h
  | n + 1, k, h => by
    unfold frs at h
    cases h2 : frs p n with
    | some j =>
      rw [h2] at h
      have := frs_lt h2
      have e : j = k := Option.some.inj h
      omega
    | none =>
      rw [h2] at h
      have h : (if p n = true then some n else none) = some k := h
      split at h
      · have := Option.some.inj h; omega
      · cases h
theorem jdV_bd {L F : Nat} {g : Nat → Nat → Nat → Bool} : -1 ≤ jdV L F g ∧ jdV L F g ≤ 1000 := by
  unfold jdV
  cases h : frs (jdP L F g) 64 with
  | none => exact ⟨by decide, by decide⟩
  | some k =>
    have := frs_lt h
    show -1 ≤ 100 * ((k / 32 : Nat) : Int) + 10 * ((k / 4 % 8 : Nat) : Int) + ((k % 4 : Nat) : Int) ∧ 100 * ((k / 32 : Nat) : Int) + 10 * ((k / 4 % 8 : Nat) : Int) + ((k % 4 : Nat) : Int) ≤ 1000
    omega
def pkm (p : Nat → Bool) : Nat → Nat
  | 0 => 0
  | n + 1 => pkm p n + if p n = true then 2 ^ n else 0
theorem pkm_lt {p : Nat → Bool} : ∀ n, pkm p n < 2 ^ n
  | 0 => by show 0 < 2 ^ 0; decide
  | n + 1 => by
    have := pkm_lt (p := p) n
    show pkm p n + (if p n = true then 2 ^ n else 0) < 2 ^ (n + 1)
    rw [Nat.pow_succ]
    split <;> omega
theorem in_mask : ∀ n, n < 4 → ∀ m, m < 2 ^ n → nI m ||| (nI 1 <<< (nI n &&& 31)) = nI (m + 2 ^ n) := by decide +kernel
section PB
variable {d : Nat} {M : Mm} {w : Nat → Nat} {ta : Nat → Nat → Nat → Nat}
/-- this number holds as a pact, by the class -/
def pcB (w : Nat → Nat) (ta : Nat → Nat → Nat → Nat) (pd n : Nat) : Bool := decide (jdV (w 0) (w 8) (gYB (yW w (w 10)) (kW w) (w 6) (w 7) (foW w (w 10) (cstW w)) (wRf w ta (n : Int) pd)) = -1)
theorem c101 (hT : TR 512 w ta M) (hb : WB w) {pd : Nat} (hpd : pd < w 11) : SC (d + 8) 101 [.ref 704, .int (nI pd)] M (fun vs N => vs = [.int (nI (pkm (pcB w ta pd) 4))] ∧ Fr aCl M N) := by
  have w10 : w 10 < w 9 := hb.2.2.2.1.2.2.1
  have w67 := hb.2.2.1
  have w11 : w 11 ≤ 6 := hb.2.2.2.1.2.2.2.1
  have hyB := yB_of hb w10
  refine sC (by decide) rfl (go_in (e101_0 (Or.inl ?_)))
  rw [hT.1.2.2.1, iz_n pd, iz_n (w 11)]
  refine useC (upC (c119 (d := d) (x := (pd : Int)) (y := (w 11 : Int)) (i32_n (by omega)) (i32_n (by omega)) (by omega) (by omega)) (by omega)) fun vs N h => ?_
  obtain ⟨rfl, rfl⟩ := h
  rw [iz_nn pd]
  refine e101_11 (useC (upC (c61 (d := d) hT hb) (by omega)) fun vs N1 h => ?_)
  obtain ⟨rfl, hF1, hY1⟩ := h
  refine e101_22 ?_
  have loop : ∀ k n N', n + k = 4 → Fr aCl N N' → YR (yW w (w 10)) (kW w) N' → FO (yW w (w 10)) 41992 (foW w (w 10) (cstW w)) N' → WM (d + 7) 101 (fun vs N' => vs = [.int (nI (pkm (pcB w ta pd) 4))] ∧ Fr aCl N N') 26 [some (.ref 704), some (.int (nI pd)), some (.int (nI (pkm (pcB w ta pd) n))), some (.int (nI n))] [] N' := by
    intro k
    induction k with
    | zero =>
      intro n N' hn hF hy hf
      have hn : n = 4 := by omega
      subst hn
      exact go_in (e101_26 (br_t (nI_le (Nat.le_refl _) (by decide)) (go_in (e101_88 ⟨rfl, rfl, hF⟩))))
    | succ k ih =>
      intro n N' hn hF hy hf
      refine go_in (e101_26 (br_f (nI_ge (by omega) (by decide)) (useC (upC (c64 (d := d) (hT.of hF (fun k j h => cl_512 h)) hb hy hyB (n := n) hpd) (by omega)) fun vs N2 h => ?_)))
      obtain ⟨rfl, hF2, hwa⟩ := h
      have hYC : YC (yW w (w 10)) (kW w) (foW w (w 10) (cstW w)) (wRf w ta (n : Int) pd) N2 := ⟨hy.of hF2 (fun j _ => rfl) (fun j => rfl), hf.of hF2 (fun j => rfl), hwa⟩
      have hw3 : ∀ b l f, wRf w ta (n : Int) pd b l f ≤ 3 := fun b l f => wRf_le (by omega)
      have hF2' : Fr aCl N N2 := hF.tr (hF2.up fun k j h => by
        unfold aWq at h
        rw [Nat.beq_eq] at h
        exact aCl_t.mpr (by omega))
      refine e101_44 (useC (upC (c15 (d := d) hYC hyB hw3) (by omega)) fun vs N3 h => ?_)
      obtain ⟨rfl, hF3, hY3, h0, h1⟩ := h
      refine e101_51 ?_
      rw [hY3.1.2.1.1, hY3.1.2.1.2.1]
      refine useC (c16 (d := d) (fo := foW w (w 10) (cstW w)) (wa := wRf w ta (n : Int) pd) hyB w67.2.1 w67.2.2 hw3 (fun f l n h1 h2 h3 => foW_bd hb w10 h1 (show l ≤ 7 by have : yW w (w 10) 0 = w 0 := rfl; have := (wb_w hb).1; omega) (show n ≤ 3 by omega)) hY3 h0 h1) fun vs N4 h => ?_
      obtain ⟨rfl, hF4, hY4, -⟩ := h
      have hF4' : Fr aCl N N4 := (hF2'.tr hF3).tr hF4
      have hj := jdV_bd (L := w 0) (F := w 8) (g := gYB (yW w (w 10)) (kW w) (w 6) (w 7) (foW w (w 10) (cstW w)) (wRf w ta (n : Int) pd))
      have hi : iz (jdV (w 0) (w 8) (gYB (yW w (w 10)) (kW w) (w 6) (w 7) (foW w (w 10) (cstW w)) (wRf w ta (n : Int) pd))) = -(nI 1) ↔ pcB w ta pd n = true := by
        rw [nI_neg1, iz_eq ⟨by omega, by omega⟩ ⟨by omega, by omega⟩]
        exact decide_eq_true_iff.symm
      refine e101_72 ⟨fun e => go_in (e101_82 ?_), fun e => go_in (e101_82 ?_)⟩
      · have hp : pkm (pcB w ta pd) (n + 1) = pkm (pcB w ta pd) n := by
          show pkm (pcB w ta pd) n + (if pcB w ta pd n = true then 2 ^ n else 0) = _
          rw [if_neg (fun q => e (hi.mpr q))]
          rfl
        rw [nI_s, ← hp]
        exact ih (n + 1) N4 (by omega) hF4' hY4.1 hY4.2.1
      · have hp : pkm (pcB w ta pd) (n + 1) = pkm (pcB w ta pd) n + 2 ^ n := by
          show pkm (pcB w ta pd) n + (if pcB w ta pd n = true then 2 ^ n else 0) = _
          rw [if_pos (hi.mp e)]
        rw [nI_s, in_mask n (by omega) _ (pkm_lt n), ← hp]
        exact ih (n + 1) N4 (by omega) hF4' hY4.1 hY4.2.1
  exact loop 4 0 N1 (by omega) (hF1.up aYr_cl) hY1.1 hY1.2.1
end PB
