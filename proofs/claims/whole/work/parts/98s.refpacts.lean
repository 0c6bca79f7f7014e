/-! The reference's pacts. -/
theorem in_mask0 : ∀ m, m < 16 → nI m ||| nI 0 = nI m := by decide +kernel
def aRp (k j : Nat) : Bool := aRe k j || (Nat.beq k 768 && (Nat.beq j 14 || Nat.beq j 15))
theorem aRe_p : ∀ k j, aRe k j = true → aRp k j = true := fun k j h => by unfold aRp; rw [h]; rfl
section PR
variable {d : Nat} {M : Mm} {w : Nat → Nat} {ta : Nat → Nat → Nat → Nat}
theorem c211 (hw : MR w M) (hb : WB w) (hD : DRel w ta M) {pd : Nat} (hpd : pd < w 11) : SC (d + 10) 211 [.ref 768, .int (nI pd)] M (fun vs N => vs = [.int (nI (pkm (pcB w ta pd) 4))] ∧ Fr aRp M N ∧ N.1 768 0 = nI 0 ∧ NP N) := by
  have w11 : w 11 ≤ 6 := hb.2.2.2.1.2.2.2.1
  refine sC (by decide) rfl (go_in (e211_0 ?_))
  obtain ⟨M1, hM1⟩ : ∃ M1, M1 = sI M 768 0 (nI 0) := ⟨_, rfl⟩
  have hF1 : Fr aRp M M1 := by rw [hM1]; exact Fr.rf.sI rfl
  have e10 : M1.1 768 0 = nI 0 := by rw [hM1, sI_v, if_pos ⟨rfl, rfl⟩]
  rw [← hM1, iz_n pd]
  have hw1 := hw.of hF1 (fun j _ => rfl)
  refine useC (upC (c139 (d := d) hw1 hb (a := (pd : Int)) (i32_n (by omega))) (by omega)) fun vs N h => ?_
  obtain ⟨rfl, rfl⟩ := h
  rw [if_pos (by omega), iz_nn pd]
  refine e211_11 (useC (upC (c130f (d := d)) (by omega)) fun vs N h => ?_)
  obtain ⟨rfl, rfl⟩ := h
  refine e211_15 ⟨fun _ => go_in (e211_20 ?_), fun e => absurd rfl e⟩
  have loop : ∀ k (o1 : Option Value) n N', n + k = 4 → Fr aRp M N' → N'.1 768 0 = nI 0 → N'.1 768 15 = nI pd → WM (d + 9) 211 (fun vs N => vs = [.int (nI (pkm (pcB w ta pd) 4))] ∧ Fr aRp M N ∧ N.1 768 0 = nI 0 ∧ NP N) 29 [some (.ref 768), o1, some (.int (nI (pkm (pcB w ta pd) n))), some (.int (nI n))] [] N' := by
    intro k
    induction k with
    | zero =>
      intro o1 n N' hn hF h0 h15
      have hn : n = 4 := by omega
      subst hn
      refine go_in (e211_29 (br_t (nI_le (Nat.le_refl _) (by decide)) (go_in (e211_62 ⟨rfl, rfl, hF.sI rfl, ?_, ?_, pd, ?_⟩))))
      · rw [sI_v, if_neg (by omega)]; exact h0
      · rw [sI_v, if_pos ⟨rfl, rfl⟩, nI_neg1]
      · rw [sI_v, if_neg (by omega)]; exact h15
    | succ k ih =>
      intro o1 n N' hn hF h0 h15
      refine go_in (e211_29 (br_f (nI_ge (by omega) (by decide)) ?_))
      have hF2 : Fr aRp M (sI N' 768 14 (nI n)) := hF.sI rfl
      have hP : PN w (n : Int) pd (sI N' 768 14 (nI n)) := ⟨by rw [sI_v, if_pos ⟨rfl, rfl⟩, iz_nn], by rw [sI_v, if_neg (by omega)]; exact h15, by omega, by omega, fun _ => hpd⟩
      refine useC (c192P (hw.of hF2 (fun j _ => rfl)) hb (hD.of hF2 (fun j => rfl)) hP) fun vs N2 h => ?_
      obtain ⟨rfl, hF3⟩ := h
      have hF4 : Fr aRp M N2 := hF2.tr (hF3.up fun k j q => aRe_p k j (aBD_re k j q))
      have g0 : N2.1 768 0 = nI 0 := by rw [(hF3 768 0 rfl).1, sI_v, if_neg (by omega)]; exact h0
      have g15 : N2.1 768 15 = nI pd := by rw [(hF3 768 15 rfl).1, sI_v, if_neg (by omega)]; exact h15
      have hj := jdV_bd (L := w 0) (F := w 8) (g := gnP w (wRf w ta (n : Int) pd))
      have hpc : pcB w ta pd n = decide (jdV (w 0) (w 8) (gnP w (wRf w ta (n : Int) pd)) = -1) := by
        unfold pcB
        rw [gYB_gnP]
      have hm := pkm_lt (p := pcB w ta pd) n
      have hm2 : 2 ^ n ≤ 8 := Nat.pow_le_pow_right (show 0 < 2 by omega) (show n ≤ 3 by omega)
      refine e211_44 ⟨fun e => go_in (e211_53 (go_in (e211_54 ?_))), fun e => go_in (e211_54 ?_)⟩
      · rw [iz_0le ⟨by omega, by omega⟩] at e
        have hp : pkm (pcB w ta pd) (n + 1) = pkm (pcB w ta pd) n := by
          show pkm (pcB w ta pd) n + (if pcB w ta pd n = true then 2 ^ n else 0) = _
          rw [hpc, decide_eq_false (by omega)]
          rfl
        rw [nI_s, in_mask0 _ (by omega), ← hp]
        exact ih _ (n + 1) N2 (by omega) hF4 g0 g15
      · rw [iz_0le ⟨by omega, by omega⟩] at e
        have hp : pkm (pcB w ta pd) (n + 1) = pkm (pcB w ta pd) n + 2 ^ n := by
          show pkm (pcB w ta pd) n + (if pcB w ta pd n = true then 2 ^ n else 0) = _
          rw [hpc, decide_eq_true (by omega)]
          rfl
        rw [nI_s, in_mask n (by omega) _ hm, ← hp]
        exact ih _ (n + 1) N2 (by omega) hF4 g0 g15
  refine loop 4 _ 0 _ (by omega) (hF1.sI rfl) ?_ ?_
  · rw [sI_v, if_neg (by omega)]; exact e10
  · rw [sI_v, if_pos ⟨rfl, rfl⟩]
end PR
