/-! The year laid open. -/
def aRule (k j : Nat) : Bool := (Nat.beq k 640 && Nat.beq j 3) || (Nat.beq k 41992 || Nat.beq k 41993)
theorem aRule_yr : ∀ k j, aYr k j = false → aRule k j = false := le_by fun k j h => by
  rcases or_f h with h | h
  · rw [beqN (and2 h).1]; rfl
  · rcases or_f h with h | h <;> rw [beqN h] <;> rfl
theorem aRow_rule {f : Nat} : ∀ k j, aRule k j = false → aRow f k j = false := le_by fun k j h => by
  unfold aRule
  rw [(and2 h).1]
  simp
theorem aRow_off {f k j : Nat} (h : j < f * 32 ∨ f * 32 + 32 ≤ j) : aRow f k j = false := by
  cases hb : aRow f k j with
  | false => rfl
  | true =>
    have h2 := (and2 hb).2
    have h3 := Nat.le_of_ble_eq_true (and2 h2).1
    have h4 : j < f * 32 + 32 := Nat.blt_eq.mp (and2 h2).2
    omega
section OQ
variable {d : Nat} {M : Mm} {w : Nat → Nat} {ta : Nat → Nat → Nat → Nat}
theorem c65 (h : TR 512 w ta M) (hb : WB w) (h0 : M.1 640 0 = nI (w 0)) (h2 : M.1 640 2 = nI (w 8)) {r : Nat} (hr : r < w 9) : SC (d + 3) 65 [.ref 640, .ref 512, .int (nI r)] M (fun vs N => vs = [] ∧ Fr aRule M N ∧ N.1 640 3 = nI (w (32 + 5 * r + 1)) ∧ FO (yW w r) 41992 (foW w r (cstW w)) N ∧ FO (yW w r) 41993 (plW w (cstW w)) N) := by
  obtain ⟨w0, w8, w9⟩ := wb_w hb
  refine sC (by decide) rfl (go_in (e65_0 (useC (c53 h hb hr (by decide : 1 < 5)) fun vs N hq => ?_)))
  obtain ⟨rfl, rfl⟩ := hq
  refine e65_7 ?_
  have loop : ∀ k' f N', f + k' = w 8 → Fr aRule N N' → N'.1 640 3 = nI (w (32 + 5 * r + 1)) → (∀ g l n, g < f → l ≤ w 0 → n < 4 → N'.1 41992 ((g * 8 + l) * 4 + n) = iz (foW w r (cstW w) g l n) ∧ N'.1 41993 ((g * 8 + l) * 4 + n) = iz (plW w (cstW w) g l n)) →
      WM (d + 2) 65 (fun vs N' => vs = [] ∧ Fr aRule N N' ∧ N'.1 640 3 = nI (w (32 + 5 * r + 1)) ∧ FO (yW w r) 41992 (foW w r (cstW w)) N' ∧ FO (yW w r) 41993 (plW w (cstW w)) N') 12 [some (.ref 640), some (.ref 512), some (.int (nI r)), some (.int (nI f))] [] N' := by
    intro k'
    induction k' with
    | zero =>
      intro f N' hf hF h3 hd
      have e2 : N'.1 640 2 = nI (w 8) := by rw [(hF 640 2 rfl).1]; exact h2
      refine go_in (e65_12 (br_t (by rw [e2]; exact nI_le (by omega) (by omega)) (go_in (e65_39 ⟨rfl, rfl, hF, h3, ?_, ?_⟩))))
      · intro g l n hg hl hn
        exact (hd g l n (show g < f by have : g < w 8 := hg; omega) hl hn).1
      · intro g l n hg hl hn
        exact (hd g l n (show g < f by have : g < w 8 := hg; omega) hl hn).2
    | succ k' ih =>
      intro f N' hf hF h3 hd
      have e2 : N'.1 640 2 = nI (w 8) := by rw [(hF 640 2 rfl).1]; exact h2
      have e0 : N'.1 640 0 = nI (w 0) := by rw [(hF 640 0 rfl).1]; exact h0
      have hT : TR 512 w ta N' := h.of hF (fun k j q => aRule_yr k j (yr_told (Or.inl rfl) k j q))
      have hcst : w (20 + 5 * f) ≤ 9 := (hb.2.2.2.2.2.1 f (by omega)).2.1
      refine go_in (e65_12 (br_f (by rw [e2]; exact nI_ge (by omega) (by omega)) ⟨nI_in2 (by omega) (by decide), ?_⟩))
      have e7 : N'.1 33799 f = nI (w (20 + 5 * f)) := (hT.2.2.2.1 f (by omega)).1
      rw [nI_c (by omega), e7]
      refine useC (c66 hT hb e0 hr (show f < w 8 by omega) hcst) fun vs N2 hq => ?_
      obtain ⟨rfl, hF2, hv⟩ := hq
      refine e65_33 ?_
      rw [nI_s]
      refine ih (f + 1) N2 (by omega) (hF.tr (hF2.le aRow_rule)) (by rw [(hF2 640 3 rfl).1]; exact h3) fun g l n hg hl hn => ?_
      by_cases e : g = f
      · subst e; exact hv l n hl hn
      · rw [(hF2 41992 _ (aRow_off (by omega))).1, (hF2 41993 _ (aRow_off (by omega))).1]
        exact hd g l n (by omega) hl hn
  have hF1 : Fr aRule N (sI N 640 3 (nI (w (32 + 5 * r + 1)))) := Fr.rf.sI rfl
  have fin := loop (w 8) 0 (sI N 640 3 (nI (w (32 + 5 * r + 1)))) (by omega) hF1 (by rw [sI_at]) (fun g l n hg => absurd hg (Nat.not_lt_zero _))
  exact fin
/-- the year is open by rule r -/
def YO (w : Nat → Nat) (ta : Nat → Nat → Nat → Nat) (r : Nat) (N : Mm) : Prop := YR (yW w r) (kW w) N ∧ FO (yW w r) 41992 (foW w r (cstW w)) N ∧ FO (yW w r) 41993 (plW w (cstW w)) N ∧ WA (yW w r) (waW w ta) N
theorem wa_ix {b l f b' l' f' : Nat} (hf : f < 3) (hf' : f' < 3) (hl : l < 8) (hl' : l' < 8) (e : (b * 8 + l) * 3 + f = (b' * 8 + l') * 3 + f') : b = b' ∧ l = l' ∧ f = f' := by omega
set_option maxHeartbeats 2000000 in
theorem c61 (h : TR 512 w ta M) (hb : WB w) : SC (d + 4) 61 [.ref 640, .ref 512] M (fun vs N => vs = [] ∧ Fr aYr M N ∧ YO w ta (w 10) N) := by
  obtain ⟨w0, w8, w9⟩ := wb_w hb
  have w10 : w 10 < w 9 := hb.2.2.2.1.2.2.1
  have w11 : w 11 ≤ 6 := hb.2.2.2.1.2.2.2.1
  refine sC (by decide) rfl (go_in (e61_0 ?_))
  have a0 : M.1 512 0 = nI (w 0) := h.1.1.1
  have a1 : M.1 512 1 = iz ((w 1 : Int) - 1) := h.1.1.2.1
  have a5 : M.1 512 5 = nI (w 8) := h.1.2.1.1
  have a3 : M.1 512 3 = nI (w 6) := h.1.1.2.2.1
  have a4 : M.1 512 4 = nI (w 7) := h.1.1.2.2.2
  have e1 : (sI M 640 0 (M.1 512 0)).1 512 1 = iz ((w 1 : Int) - 1) := by rw [sI_v, if_neg (by omega), a1]
  rw [e1]
  have e5 : (sI (sI M 640 0 (M.1 512 0)) 640 1 (iz ((w 1 : Int) - 1))).1 512 5 = nI (w 8) := by rw [sI_v, if_neg (by omega), sI_v, if_neg (by omega), a5]
  rw [e5]
  have e3 : (sI (sI (sI M 640 0 (M.1 512 0)) 640 1 (iz ((w 1 : Int) - 1))) 640 2 (nI (w 8))).1 512 3 = nI (w 6) := by rw [sI_v, if_neg (by omega), sI_v, if_neg (by omega), sI_v, if_neg (by omega), a3]
  rw [e3]
  have e4 : (sI (sI (sI (sI M 640 0 (M.1 512 0)) 640 1 (iz ((w 1 : Int) - 1))) 640 2 (nI (w 8))) 640 4 (nI (w 6))).1 512 4 = nI (w 7) := by rw [sI_v, if_neg (by omega), sI_v, if_neg (by omega), sI_v, if_neg (by omega), sI_v, if_neg (by omega), a4]
  rw [e4, a0]
  obtain ⟨M1, hM1⟩ : ∃ M1, M1 = sI (sI (sI (sI (sI M 640 0 (nI (w 0))) 640 1 (iz ((w 1 : Int) - 1))) 640 2 (nI (w 8))) 640 4 (nI (w 6))) 640 5 (nI (w 7)) := ⟨_, rfl⟩
  rw [← hM1]
  have hF1 : Fr aYr M M1 := by rw [hM1]; exact ((((Fr.rf.sI rfl).sI rfl).sI rfl).sI rfl).sI rfl
  have hT1 := h.of hF1 (yr_told (Or.inl rfl))
  refine useC (c52 hT1) fun vs N hq => ?_
  obtain ⟨rfl, rfl⟩ := hq
  refine e61_45 ⟨⟨by decide, by decide, by decide, by decide, by decide⟩, ?_⟩
  rw [nI_c (a := 0) (by decide), nI_c (a := 4) (by decide)]
  obtain ⟨M2, hM2⟩ : ∃ M2, M2 = cpI (sI N 640 6 (nI (w 2 + w 3 + w 4 + w 5))) 33794 41991 0 0 4 := ⟨_, rfl⟩
  rw [← hM2]
  have hF2 : Fr aYr M M2 := by rw [hM2]; exact (hF1.sI rfl).cpI (fun b _ _ => rfl)
  have hT2 := h.of hF2 (yr_told (Or.inl rfl))
  have m0 : M2.1 640 0 = nI (w 0) := by rw [hM2, hM1]; rfl
  have m1 : M2.1 640 1 = iz ((w 1 : Int) - 1) := by rw [hM2, hM1]; rfl
  have m2 : M2.1 640 2 = nI (w 8) := by rw [hM2, hM1]; rfl
  have m4 : M2.1 640 4 = nI (w 6) := by rw [hM2, hM1]; rfl
  have m5 : M2.1 640 5 = nI (w 7) := by rw [hM2, hM1]; rfl
  have m6 : M2.1 640 6 = nI (w 2 + w 3 + w 4 + w 5) := by rw [hM2]; rfl
  have mp : ∀ r, r < 4 → M2.1 41991 r = nI (w (2 + r)) := fun r hr => by
    rw [hM2, cpI_v, if_pos (by omega), Nat.zero_add, Nat.sub_zero, sI_v, if_neg (by omega)]
    exact hT1.2.1 r hr
  have hr10 : M2.1 512 10 = nI (w 10) := hT2.1.2.1.2.2
  rw [hr10]
  refine useC (c65 hT2 hb m0 m2 w10) fun vs N3 hq => ?_
  obtain ⟨rfl, hF3, n3, hfo, hpl⟩ := hq
  refine e61_71 ?_
  have hF3' : Fr aYr M N3 := hF2.tr (hF3.le aRule_yr)
  have hYR : YR (yW w (w 10)) (kW w) N3 := by
    refine ⟨⟨?_, ?_, ?_, n3⟩, ⟨?_, ?_, ?_⟩, fun r hr => ?_⟩
    · rw [(hF3 640 0 rfl).1]; exact m0
    · rw [(hF3 640 1 rfl).1]; exact m1
    · rw [(hF3 640 2 rfl).1]; exact m2
    · rw [(hF3 640 4 rfl).1]; exact m4
    · rw [(hF3 640 5 rfl).1]; exact m5
    · rw [(hF3 640 6 rfl).1]; exact m6
    · rw [(hF3 41991 r rfl).1, mp r hr]
      rcases (show r = 0 ∨ r = 1 ∨ r = 2 ∨ r = 3 by omega) with e | e | e | e <;> subst e <;> rfl
  have ok : ∀ N', Fr aWa N3 N' → Fr aYr M N' ∧ TR 512 w ta N' ∧ N'.1 640 0 = nI (w 0) ∧ N'.1 640 2 = nI (w 8) := fun N' hF => by
    have q := hF3'.tr (hF.le aWa_yr)
    exact ⟨q, h.of q (yr_told (Or.inl rfl)), by rw [(hF 640 0 rfl).1]; exact hYR.1.1, by rw [(hF 640 2 rfl).1]; exact hYR.1.2.2.1⟩
  have fin : ∀ N', Fr aWa N3 N' → (∀ b l f, b < 2 → l ≤ w 0 → f < w 8 → N'.1 41994 ((b * 8 + l) * 3 + f) = nI (waW w ta b l f)) → ([] : List Value) = [] ∧ Fr aYr M N' ∧ YO w ta (w 10) N' := fun N' hF hd =>
    ⟨rfl, (ok N' hF).1, hYR.of hF (fun j _ => rfl) (fun j => rfl), hfo.of hF (fun j => rfl), hpl.of hF (fun j => rfl), hd⟩
  have L1 : ∀ k1 (o3 o4 : Option Value) l N', l + k1 = w 0 + 1 → Fr aWa N3 N' → (∀ b l' f, b < 2 → l' < l → f < w 8 → N'.1 41994 ((b * 8 + l') * 3 + f) = nI (waW w ta b l' f)) → WM (d + 3) 61 (fun vs N => vs = [] ∧ Fr aYr M N ∧ YO w ta (w 10) N) 73 [some (.ref 640), some (.ref 512), some (.int (nI l)), o3, o4] [] N' := by
    intro k1
    induction k1 with
    | zero =>
      intro o3 o4 l N' hl hF hd
      exact go_in (e61_73 (br_t (by rw [(ok N' hF).2.2.1]; exact nI_lt (by omega) (by omega)) (go_in (e61_145 ⟨rfl, fin N' hF (fun b l' f h1 h2 h3 => hd b l' f h1 (by omega) h3)⟩))))
    | succ k1 ih1 =>
      intro o3 o4 l N' hl hF hd
      refine go_in (e61_73 (br_f (by rw [(ok N' hF).2.2.1]; exact nI_nlt (by omega) (by omega)) ?_))
      have L2 : ∀ k2 (o4 : Option Value) f N2, f + k2 = w 8 → Fr aWa N3 N2 → (∀ b l' f', b < 2 → (l' < l ∨ (l' = l ∧ f' < f)) → f' < w 8 → N2.1 41994 ((b * 8 + l') * 3 + f') = nI (waW w ta b l' f')) → WM (d + 3) 61 (fun vs N => vs = [] ∧ Fr aYr M N ∧ YO w ta (w 10) N) 83 [some (.ref 640), some (.ref 512), some (.int (nI l)), some (.int (nI f)), o4] [] N2 := by
        intro k2
        induction k2 with
        | zero =>
          intro o4 f N2 hf hF2 hd2
          refine go_in (e61_83 (br_t (by rw [(ok N2 hF2).2.2.2]; exact nI_le (by omega) (by omega)) (go_in (e61_139 ?_))))
          rw [nI_s]
          exact ih1 _ _ (l + 1) N2 (by omega) hF2 (fun b l' f' h1 h2 h3 => hd2 b l' f' h1 (by omega) h3)
        | succ k2 ih2 =>
          intro o4 f N2 hf hF2 hd2
          refine go_in (e61_83 (br_f (by rw [(ok N2 hF2).2.2.2]; exact nI_ge (by omega) (by omega)) ?_))
          have L3 : ∀ k3 b N4, b + k3 = 2 → Fr aWa N3 N4 → (∀ b' l' f', b' < 2 → (l' < l ∨ (l' = l ∧ (f' < f ∨ (f' = f ∧ b' < b)))) → f' < w 8 → N4.1 41994 ((b' * 8 + l') * 3 + f') = nI (waW w ta b' l' f')) → WM (d + 3) 61 (fun vs N => vs = [] ∧ Fr aYr M N ∧ YO w ta (w 10) N) 94 [some (.ref 640), some (.ref 512), some (.int (nI l)), some (.int (nI f)), some (.int (nI b))] [] N4 := by
            intro k3
            induction k3 with
            | zero =>
              intro b N4 hbb hF4 hd4
              refine go_in (e61_94 (br_t (nI_le (by omega) (by omega)) (go_in (e61_133 ?_))))
              rw [nI_s]
              exact ih2 _ (f + 1) N4 (by omega) hF4 (fun b' l' f' h1 h2 h3 => hd4 b' l' f' h1 (by omega) h3)
            | succ k3 ih3 =>
              intro b N4 hbb hF4 hd4
              obtain ⟨-, hT4, -, -⟩ := ok N4 hF4
              have hgo : N4.1 33800 f = iz ((w (21 + 5 * f) : Int) - 1) := (hT4.2.2.2.1 f (by omega)).2
              have hby : w (21 + 5 * f) ≤ w 11 := (hb.2.2.2.2.2.1 f (by omega)).2.2
              refine go_in (e61_94 (br_f (nI_ge (by omega) (by decide)) (useC c62 fun vs N5 hq => ?_)))
              obtain ⟨rfl, rfl⟩ := hq
              refine e61_110 ⟨nI_in2 (by omega) (by decide), ?_⟩
              rw [nI_c (by omega), hgo, nI_add]
              refine useC (upC (c54 (d := d) hT4 hb (show w (21 + 5 * f) ≤ 6 by omega) (show f < 3 by omega) (show l < 8 by omega) (show b < 2 by omega)) (by omega)) fun vs N6 hq => ?_
              obtain ⟨rfl, rfl⟩ := hq
              refine e61_126 ⟨nI_in2 (by omega) (by decide), ?_⟩
              rw [nI_s, nI_c (by omega)]
              refine ih3 (b + 1) _ (by omega) (hF4.sI rfl) fun b' l' f' h1 h2 h3 => ?_
              rw [sI_v]
              by_cases e : b' = b ∧ l' = l ∧ f' = f
              · obtain ⟨rfl, rfl, rfl⟩ := e
                rw [if_pos ⟨rfl, rfl⟩]
                rfl
              · rw [if_neg (fun q => e (wa_ix (by omega) (by omega) (by omega) (by omega) q.2))]
                exact hd4 b' l' f' h1 (by omega) h3
          exact L3 2 0 N2 (by omega) hF2 (fun b' l' f' h1 h2 h3 => hd2 b' l' f' h1 (by omega) h3)
      exact L2 (w 8) _ 0 N' (by omega) hF (fun b l' f' h1 h2 h3 => hd b l' f' h1 (by omega) h3)
  exact L1 (w 0 + 1) _ _ 0 N3 (by omega) Fr.rf (fun b l' f h1 h2 => absurd h2 (Nat.not_lt_zero _))
end OQ
