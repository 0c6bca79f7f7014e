/-! The judge by any wants: the first. -/
section JV
variable {d : Nat} {M : Mm} {w : Nat → Nat} {ta : Nat → Nat → Nat → Nat}
set_option maxHeartbeats 1000000 in
theorem c192P (hw : MR w M) (hb : WB w) (hD : DRel w ta M) {pn : Int} {pd : Nat} (hpn : PN w pn pd M) : SC (d + 9) 192 [.ref 768] M (fun vs N => vs = [.int (iz (jdV (w 0) (w 8) (gnP w (wRf w ta pn pd))))] ∧ Fr aBD M N) := by
  obtain ⟨w0, w8, w9⟩ := wb_w hb
  refine sC (by decide) rfl (go_in (e192_0 (useC (c189 hw hb hD hpn) fun vs N h => ?_)))
  obtain ⟨rfl, hF, hB⟩ := h
  refine e192_4 ?_
  have ok : ∀ N', Fr aYB N N' → MR w N' ∧ DRel w ta N' ∧ PN w pn pd N' ∧ ∀ b f, b < 2 → f < w 8 → BYD w ta pn pd b f N' := fun N' hF' =>
    ⟨(hw.of hF (fun j _ => rfl)).of hF' (fun j _ => rfl), (hD.of hF (fun j => rfl)).of hF' (fun j => rfl), (hpn.of hF rfl rfl trivial).of hF' rfl rfl trivial, fun b f h1 h2 => ⟨fun l hl => by rw [(hF' 50206 _ rfl).2.1]; exact (hB b f h1 h2).1 l hl, by rw [(hF' 50207 _ rfl).2.1]; exact (hB b f h1 h2).2⟩⟩
  have LB : ∀ k (o2 o3 : Option Value) b N', b + k = 2 → Fr aYB N N' → (∀ k, k < (b * 8 + 0) * 4 + 0 → jdP (w 0) (w 8) (gnP w (wRf w ta pn pd)) k = false) → WM (d + 8) 192 (fun vs N => vs = [.int (iz (jdV (w 0) (w 8) (gnP w (wRf w ta pn pd))))] ∧ Fr aBD M N) 6 [some (.ref 768), some (.int (nI b)), o2, o3] [] N' := by
    intro k
    induction k with
    | zero =>
      intro o2 o3 b N' hk hF' hn
      refine go_in (e192_6 (br_t (nI_le (by omega) (by omega)) (go_in (e192_71 ?_))))
      rw [jdV_none fun k hk => hn k (by omega), nI_neg1]
      exact ⟨rfl, rfl, hF.tr (hF'.up aYB_bd)⟩
    | succ k ih =>
      intro o2 o3 b N' hk hF' hn
      refine go_in (e192_6 (br_f (nI_ge (by omega) (by omega)) ?_))
      have LL : ∀ k2 (o3 : Option Value) l N', l + k2 = w 0 + 1 → Fr aYB N N' → (∀ k, k < (b * 8 + l) * 4 + 0 → jdP (w 0) (w 8) (gnP w (wRf w ta pn pd)) k = false) → WM (d + 8) 192 (fun vs N => vs = [.int (iz (jdV (w 0) (w 8) (gnP w (wRf w ta pn pd))))] ∧ Fr aBD M N) 13 [some (.ref 768), some (.int (nI b)), some (.int (nI l)), o3] [] N' := by
        intro k2
        induction k2 with
        | zero =>
          intro o3 l N' hk2 hF' hn
          refine go_in (e192_13 (useC (upC (c134 (d := d) (ok N' hF').1) (by omega)) fun vs N2 h => ?_))
          obtain ⟨rfl, rfl⟩ := h
          refine e192_18 (br_t (nI_lt (by omega) (by omega)) (go_in (e192_65 ?_)))
          rw [nI_s]
          refine ih _ _ (b + 1) _ (by omega) hF' fun k hk3 => ?_
          by_cases e : k < (b * 8 + l) * 4 + 0
          · exact hn k e
          · exact jdP_no (by omega)
        | succ k2 ih2 =>
          intro o3 l N' hk2 hF' hn
          refine go_in (e192_13 (useC (upC (c134 (d := d) (ok N' hF').1) (by omega)) fun vs N2 h => ?_))
          obtain ⟨rfl, rfl⟩ := h
          refine e192_18 (br_f (nI_nlt (by omega) (by omega)) ?_)
          have LF : ∀ k3 f N', f + k3 = w 8 → Fr aYB N N' → (∀ k, k < (b * 8 + l) * 4 + f → jdP (w 0) (w 8) (gnP w (wRf w ta pn pd)) k = false) → WM (d + 8) 192 (fun vs N => vs = [.int (iz (jdV (w 0) (w 8) (gnP w (wRf w ta pn pd))))] ∧ Fr aBD M N) 23 [some (.ref 768), some (.int (nI b)), some (.int (nI l)), some (.int (nI f))] [] N' := by
            intro k3
            induction k3 with
            | zero =>
              intro f N' hk3 hF' hn
              refine go_in (e192_23 (useC (upC (c135 (d := d) (ok N' hF').1) (by omega)) fun vs N2 h => ?_))
              obtain ⟨rfl, rfl⟩ := h
              refine e192_28 (br_t (nI_le (by omega) (by omega)) (go_in (e192_59 ?_)))
              rw [nI_s]
              refine ih2 _ (l + 1) _ (by omega) hF' fun k hk4 => ?_
              by_cases e : k < (b * 8 + l) * 4 + f
              · exact hn k e
              · exact jdP_no (by omega)
            | succ k3 ih3 =>
              intro f N' hk3 hF' hn
              obtain ⟨hw', hD', hp', hB'⟩ := ok N' hF'
              refine go_in (e192_23 (useC (upC (c135 (d := d) hw') (by omega)) fun vs N2 h => ?_))
              obtain ⟨rfl, rfl⟩ := h
              refine e192_28 (br_f (nI_ge (by omega) (by omega)) (useC (c191P hw' hb hD' hp' hB' (show f < w 8 by omega) (show l ≤ w 0 by omega) (show b < 2 by omega)) fun vs N3 h => ?_))
              obtain ⟨rfl, hF3⟩ := h
              have hF4 := hF'.tr hF3
              cases hg : gnP w (wRf w ta pn pd) b f l with
              | false =>
                refine e192_38 ⟨fun _ => go_in (e192_53 ?_), fun q => absurd rfl q⟩
                rw [nI_s]
                refine ih3 (f + 1) _ (by omega) hF4 fun k hk4 => ?_
                by_cases e : k < (b * 8 + l) * 4 + f
                · exact hn k e
                · have : k = (b * 8 + l) * 4 + f := by omega
                  rw [this, jdP_at (by omega) (by omega) (by omega) (by omega)]
                  exact hg
              | true =>
                refine e192_38 ⟨fun q => absurd q (by decide), fun _ => ?_⟩
                rw [jdV_some (show b < 2 by omega) (show l ≤ w 0 by omega) (by omega) (show f < w 8 by omega) (by omega) hn hg, nI_mul, nI_mul, nI_add, nI_add, iz_n]
                refine ⟨rfl, ?_, hF.tr (hF4.up aYB_bd)⟩
                congr 3
          exact LF (w 8) 0 _ (by omega) hF' hn
      exact LL (w 0 + 1) _ 0 _ (by omega) hF' hn
  exact LB 2 _ _ 0 N (by omega) Fr.rf fun k hk => absurd hk (by omega)
theorem gYB_gnP (w : Nat → Nat) (wa : Nat → Nat → Nat → Nat) : gYB (yW w (w 10)) (kW w) (w 6) (w 7) (foW w (w 10) (cstW w)) (wa) = gnP w wa := by
  have hU : ∀ s, eUY (yW w (w 10)) (kW w) (w 6) (w 7) (wa) s = elP w wa s := fun s => by
    unfold eUY elP
    rw [dY_dtW, Int.mul_comm]
    rfl
  have hX : ∀ s V f l, eXY (yW w (w 10)) (kW w) (w 6) (w 7) (foW w (w 10) (cstW w)) (wa) s V f l = xlP w wa s V f l := fun s V f l => by
    unfold eXY xlP
    rw [← hU s]
    unfold eUY
    have e : uY (yW w (w 10)) (w 6) (w 7) (loY (yW w (w 10)) (kW w) (wa s)) (paY (yW w (w 10)) (foW w (w 10) (cstW w)) (wa s) f) = uWo w (w 10) (wa s) f := by
      funext l
      exact uY_uWo w (w 10) (wa s) f l
    rw [e, Int.mul_assoc, Int.mul_comm (w 6 : Int)]
    rfl
  have hE : ∀ b f l n, eBY (yW w (w 10)) (kW w) (w 6) (w 7) (foW w (w 10) (cstW w)) (wa) b f l n = ebP w wa b f l n := fun b f l n => by
    unfold eBY ebP
    rw [hU, hX, dY_dtW, uY_uWo]
    rfl
  funext b f l
  unfold gYB gnP
  congr 1
  funext n
  exact hE b f l n
end JV
