/-! The reference's run. -/
def rnU (w : Nat → Nat) (ta : Nat → Nat → Nat → Nat) (l0 : Nat) (sd : Int32) (tld : Bool) (n what : Nat) : Int := if what < w 8 then rnH w ta l0 sd tld n what else 0
section RU
variable {d : Nat} {M : Mm} {w : Nat → Nat} {ta : Nat → Nat → Nat → Nat}
theorem c222 (hw : MR w M) (hb : WB w) {k : Nat} (hk : k < 32768) : SC (d + 2) 222 [.ref 768, .int (nI k)] M (fun vs N => vs = [.int (nI (rnR w 3 0 (k % (w 2 + w 3 + w 4 + w 5))))] ∧ N = M) := by
  have hpt := hb.2.1
  refine sC (by decide) rfl (go_in (e222_0 (useC (upC (c136 (d := d) hw) (by omega)) fun vs N h => ?_)))
  obtain ⟨rfl, h⟩ := h
  have h := h.symm
  subst h
  refine e222_5 ⟨fun q => ?_, ?_⟩
  · rw [zero_nI, iz_n, iz_n, iz_eq (i32_n (by omega)) (i32_n (by omega))] at q
    omega
  rw [pk_rem (by omega) (by omega) (by omega)]
  have hsum : ∀ r, r < 4 → M.1 50177 (2 + r) = nI (w (2 + r)) := fun r hr => hw.n (by omega) (shf_no (by omega))
  have loop : ∀ m r p (o1 : Option Value), r + m = 3 → p < 5 → (r = 0 → p < w 2 + w 3 + w 4 + w 5) → (r = 1 → p < w 3 + w 4 + w 5) → (r = 2 → p < w 4 + w 5) → (r = 3 → p < w 5) → WM (d + 1) 222 (fun vs N => vs = [.int (nI (rnR w m r p))] ∧ N = M) 9 [some (.ref 768), o1, some (.int (nI p)), some (.int (nI r))] [] M := by
    intro m
    induction m with
    | zero =>
      intro r p o1 hr hp h0 h1 h2 h3
      have hr : r = 3 := by omega
      subst hr
      refine go_in (e222_9 ?_)
      have hw4 := hpt.1 3 (by omega)
      rw [nI_add, nI_c (by omega), hsum 3 (by omega), nI_ltI (by omega) (by omega)]
      exact ⟨nI_in2 (by omega) (by decide), fun _ => go_in (e222_38 ⟨rfl, rfl, rfl⟩), fun q => absurd (h3 rfl) q⟩
    | succ m ih =>
      intro r p o1 hr hp h0 h1 h2 h3
      refine go_in (e222_9 ?_)
      have hw4 := hpt.1 r (by omega)
      have hs : rnR w (m + 1) r p = if p < w (2 + r) then r else rnR w m (r + 1) (p - w (2 + r)) := rfl
      rw [nI_add, nI_c (by omega), hsum r (by omega), nI_ltI (by omega) (by omega), hs]
      refine ⟨nI_in2 (by omega) (by decide), fun q => go_in (e222_38 ⟨rfl, by rw [if_pos q], rfl⟩), fun q => ⟨nI_in2 (by omega) (by decide), ?_⟩⟩
      rw [if_neg q, nI_sub (by omega), nI_s]
      refine ih (r + 1) (p - w (2 + r)) _ (by omega) (by omega) (fun h => by omega) (fun h => ?_) (fun h => ?_) (fun h => ?_)
      · have : r = 0 := by omega
        subst this
        have := h0 rfl
        show p - w 2 < _
        have q' : ¬ p < w 2 := q
        omega
      · have : r = 1 := by omega
        subst this
        have := h1 rfl
        show p - w 3 < _
        have q' : ¬ p < w 3 := q
        omega
      · have : r = 2 := by omega
        subst this
        have := h2 rfl
        show p - w 4 < _
        have q' : ¬ p < w 4 := q
        omega
  have hm := Nat.mod_lt k (show 0 < w 2 + w 3 + w 4 + w 5 by omega)
  exact loop 3 0 _ _ rfl (by omega) (fun _ => hm) (fun h => absurd h (by decide)) (fun h => absurd h (by decide)) (fun h => absurd h (by decide))
theorem c223 (hw : MR w M) (hb : WB w) (hD : DRel w ta M) (hp : NP M) {l n what : Nat} {sd : Int32} {tld : Bool} (hl : l ≤ w 0) (hn : n ≤ 100) (hwh : what ≤ 7) : SC (d + 9) 223 [.ref 768, .int (nI l), .int (nI n), .int sd, .int (nI (cond tld 1 0)), .int (nI what)] M (fun vs N => vs = [.int (iz (rnA w ta l n sd tld what))] ∧ Fr aRe M N ∧ N.1 768 0 = nI 0) := by
  obtain ⟨w0, w8, w9⟩ := wb_w hb
  have hpt := hb.2.1
  have w10 : w 10 < w 9 := hb.2.2.2.1.2.2.1
  have w12 : w 12 ≤ 6 := hb.2.2.2.1.2.2.2.2.1
  have w13 : w 13 ≤ 400 := hb.2.2.2.1.2.2.2.2.2
  have hbs := hb.2.2.2.2.1
  have hyB := yB_of hb w10
  refine sC (by decide) rfl (go_in (e223_0 ?_))
  obtain ⟨M1, hM1⟩ : ∃ M1, M1 = sI M 768 0 (nI 0) := ⟨_, rfl⟩
  have hF1 : Fr aRe M M1 := by rw [hM1]; exact Fr.rf.sI rfl
  have e10 : M1.1 768 0 = nI 0 := by rw [hM1, sI_v, if_pos ⟨rfl, rfl⟩]
  rw [← hM1]
  have hw1 := hw.of hF1 (fun j _ => rfl)
  have hD1 := hD.of hF1 (fun j => rfl)
  have hp1 := hp.of hF1 rfl rfl
  rw [iz_n l]
  refine useC (upC (c137 (d := d) hw1 hb (a := (l : Int)) (i32_n (by omega))) (by omega)) fun vs N q => ?_
  obtain ⟨rfl, q⟩ := q
  have q := q.symm
  subst q
  rw [if_pos (by omega), ← iz_n l]
  refine e223_11 (useC (upC (c130f (d := d)) (by omega)) fun vs N q => ?_)
  obtain ⟨rfl, q⟩ := q
  have q := q.symm
  subst q
  refine e223_15 ⟨fun e => absurd rfl e, fun _ => ?_⟩
  rw [iz_n n, iz_n 0, iz_n 100]
  refine useC (upC (c131 (d := d) (a := (n : Int)) (i32_n (by omega)) (i32_n (by omega)) (i32_n (by omega))) (by omega)) fun vs N q => ?_
  obtain ⟨rfl, q⟩ := q
  have q := q.symm
  subst q
  rw [← iz_n n]
  refine e223_26 ⟨fun _ => go_in (e223_33 (go_in (e223_34 (useC (upC (c130f (d := d)) (by omega)) fun vs N q => ?_)))), fun e => absurd (by omega) (b01.mp e)⟩
  obtain ⟨rfl, q⟩ := q
  have q := q.symm
  subst q
  refine e223_38 ⟨fun e => absurd rfl e, fun _ => ?_⟩
  rw [iz_n what, iz_n 7]
  refine useC (upC (c131 (d := d) (a := (what : Int)) (b := ((0 : Nat) : Int)) (i32_n (by omega)) (i32_n (by omega)) (i32_n (by omega))) (by omega)) fun vs N q => ?_
  obtain ⟨rfl, q⟩ := q
  have q := q.symm
  subst q
  rw [← iz_n what]
  refine e223_50 ⟨fun _ => go_in (e223_57 (go_in (e223_58 (useC (upC (c130f (d := d)) (by omega)) fun vs N q => ?_)))), fun e => absurd (by omega) (b01.mp e)⟩
  obtain ⟨rfl, q⟩ := q
  have q := q.symm
  subst q
  have m15 : M1.1 50177 15 = nI (w 15) := hw1.n (by decide) rfl
  refine e223_62 ⟨fun _ => go_in (e223_67 ⟨nI_in2 (by decide) (by decide), ?_⟩), fun e => absurd rfl e⟩
  rw [nI_c (by decide), m15]
  have main : ∀ k y N (o1 o3 o15 o16 o17 : Option Value), y + k = n → Fr aYB M1 N → WM (d + 8) 223 (fun vs N => vs = [.int (iz (rnA w ta l n sd tld what))] ∧ Fr aRe M N ∧ N.1 768 0 = nI 0) 100 [some (.ref 768), o1, some (.int (nI n)), o3, some (.int (nI (cond tld 1 0))), some (.int (nI what)), some (.int (nI (rnS w ta l sd tld y 0))), some (.int (nI (rnS w ta l sd tld y 1))), some (.int (nI (rnS w ta l sd tld y 2))), some (.int (sdN sd y)), some (.int (iz (rnU w ta l sd tld y what))), some (.int (iz ((rnS w ta l sd tld y 4 : Int) - 1))), some (.int (iz ((rnS w ta l sd tld y 5 : Int) - 1))), some (.int (nI (rnS w ta l sd tld y 3))), some (.int (nI y)), o15, o16, o17] [] N := by
    intro k
    induction k with
    | zero =>
      intro y N o1 o3 o15 o16 o17 hy hF
      have hy : y = n := by omega
      subst hy
      have hFR : Fr aRe M N := hF1.tr (hF.up fun k j q => aBD_re k j (aYB_bd k j q))
      have h00 : N.1 768 0 = nI 0 := by rw [(hF 768 0 rfl).1]; exact e10
      refine go_in (e223_100 (br_t (nI_le (Nat.le_refl _) (by omega)) (go_in (e223_439 ?_))))
      have q : ∀ a, a < 8 → (nI what = nI a ↔ what = a) := fun a ha => by
        rw [iz_n, iz_n, iz_eq (i32_n (by omega)) (i32_n (by omega))]
        omega
      rw [nI_leI (by omega) (by omega)]
      refine ⟨fun e => go_in (e223_450 ?_), fun e => go_in (e223_511 ⟨rfl, ?_, hFR, h00⟩)⟩
      · rw [q 3 (by omega)]
        refine ⟨fun e3 => go_in (e223_461 ?_), fun e3 => go_in (e223_511 ⟨rfl, ?_, hFR, h00⟩)⟩
        · rw [q 4 (by omega)]
          refine ⟨fun e4 => go_in (e223_472 ?_), fun e4 => go_in (e223_511 ⟨rfl, ?_, hFR, h00⟩)⟩
          · rw [q 5 (by omega)]
            refine ⟨fun e5 => go_in (e223_483 ?_), fun e5 => go_in (e223_511 ⟨rfl, ?_, hFR, h00⟩)⟩
            · rw [q 7 (by omega)]
              refine ⟨fun e7 => go_in (e223_495 ⟨nI_in2 (by decide) (by decide), ?_⟩), fun e7 => go_in (e223_511 ⟨rfl, ?_, hFR, h00⟩)⟩
              · have e6 : what = 6 := by omega
                subst e6
                have m14 : N.1 50177 14 = nI (w 14) := (hw1.of hF (fun j _ => rfl)).n (by decide) rfl
                have h0 : nI (w 14) = 0 ↔ w 14 = 0 := by
                  rw [zero_nI, iz_n, iz_n, iz_eq (i32_n (by omega)) (i32_n (by omega))]
                  omega
                have hA : rnA w ta l y sd tld 6 = if w 14 = 0 then -1 else (rnS w ta l sd tld y 1 : Int) := rfl
                rw [nI_c (by decide), m14, h0, hA]
                refine ⟨fun e => go_in (e223_509 (go_in (e223_511 ⟨rfl, ?_, hFR, h00⟩))), fun e => go_in (e223_511 ⟨rfl, ?_, hFR, h00⟩)⟩
                · rw [if_neg e, iz_n]
                · rw [if_pos e, nI_neg1]
              · subst e7
                rw [iz_n]
                rfl
            · subst e5
              rfl
          · subst e4
            rfl
        · subst e3
          rw [iz_n]
          rfl
      · have hA : rnA w ta l y sd tld what = rnH w ta l sd tld y what := if_pos (by omega)
        rw [hA]
        by_cases h8 : what < w 8
        · unfold rnU
          rw [if_pos h8]
        · unfold rnU
          rw [if_neg h8, rnH_0 h8]
    | succ k ih =>
      intro y N o1 o3 o15 o16 o17 hy hF
      obtain ⟨g0, g1, g3, g4, g5⟩ := rnS_bd (ta := ta) (sd := sd) (tld := tld) hb hl y
      have hb01 : nI (rnS w ta l sd tld y 3) = 0 ↔ ¬ rnS w ta l sd tld y 3 = 1 := by
        rw [zero_nI, iz_n, iz_n, iz_eq (i32_n (by omega)) (i32_n (by omega))]
        omega
      have hrv : rnv w ta (rnS w ta l sd tld y) y = brk w y (waW w ta (rnS w ta l sd tld y 3) (rnS w ta l sd tld y 0)) (w 12) := rfl
      -- the end of a year
      have fin2 : ∀ N (o1 o3 o15 o16 o17 : Option Value), Fr aYB M1 N → N.1 768 19 = nI (lowS (yW w (w 10)) (kW w) (rnv w ta (rnS w ta l sd tld y) y) (rnS w ta l sd tld y 0)) → wpl (SC (d + 8)) (ST (d + 8)) (RP (fun vs N => vs = [.int (iz (rnA w ta l n sd tld what))] ∧ Fr aRe M N ∧ N.1 768 0 = nI 0)) (Wp (SC (d + 8)) (ST (d + 8)) (RP (fun vs N => vs = [.int (iz (rnA w ta l n sd tld what))] ∧ Fr aRe M N ∧ N.1 768 0 = nI 0)) hdN (txOf 223)) (hdN (Wp (SC (d + 8)) (ST (d + 8)) (RP (fun vs N => vs = [.int (iz (rnA w ta l n sd tld what))] ∧ Fr aRe M N ∧ N.1 768 0 = nI 0)) hdN (txOf 223))) s223_388 0 [some (.ref 768), none, some (.int (nI n)), none, some (.int (nI (cond tld 1 0))), some (.int (nI what)), none, some (.int (nI (rnQ w ta (rnS w ta l sd tld y) y - min (w 16) (rnQ w ta (rnS w ta l sd tld y) y)))), some (.int (nI (rnS w ta l sd tld y 2 + min (w 16) (rnQ w ta (rnS w ta l sd tld y) y)))), some (.int (sdN sd (y + 1))), some (.int (iz (rnU w ta l sd tld (y + 1) what))), some (.int (iz ((rnS w ta l sd tld y 4 : Int) - 1))), some (.int (iz (((if rnS w ta l sd tld y 3 = 1 ∧ rnS w ta l sd tld y 5 = 0 then y + 1 else rnS w ta l sd tld y 5 : Nat) : Int) - 1))), some (.int (nI (rnS w ta l sd tld y 3))), some (.int (nI y)), some (.int (nI (cond (rnM w ta (rnS w ta l sd tld y) y) 1 0))), none, none] [.int (nI (rnN w sd tld y))] N := by
        intro N o1 o3 o15 o16 o17 hF hlow
        have hw' := hw1.of hF (fun j _ => rfl)
        have hrn := rnN_3 (sd := sd) (tld := tld) hb y
        have hl7 : lowS (yW w (w 10)) (kW w) (rnv w ta (rnS w ta l sd tld y) y) (rnS w ta l sd tld y 0) ≤ 7 := Nat.le_trans lowS_le (by omega)
        refine e223_388 ?_
        rw [hlow]
        refine useC (upC (c177 (d := d) hw' hb (a := lowS (yW w (w 10)) (kW w) (rnv w ta (rnS w ta l sd tld y) y) (rnS w ta l sd tld y 0)) (r := rnN w sd tld y) (by omega) (by omega)) (by omega)) fun vs N2 h => ?_
        obtain ⟨rfl, h⟩ := h
        have h := h.symm
        subst h
        have hL : min (w 0) (lowS (yW w (w 10)) (kW w) (rnv w ta (rnS w ta l sd tld y) y) (rnS w ta l sd tld y 0) + rnN w sd tld y) = rnL w ta sd tld (rnS w ta l sd tld y) y := rfl
        have hLle : rnL w ta sd tld (rnS w ta l sd tld y) y ≤ 7 := by
          have : rnL w ta sd tld (rnS w ta l sd tld y) y ≤ w 0 := Nat.min_le_left _ _
          omega
        have l0q : nI (rnL w ta sd tld (rnS w ta l sd tld y) y) = 0 ↔ rnL w ta sd tld (rnS w ta l sd tld y) y = 0 := by
          rw [zero_nI, iz_n, iz_n, iz_eq (i32_n (by omega)) (i32_n (by omega))]
          omega
        rw [hL]
        -- the last steps
        have last : ∀ (o1 o3 o16 o17 : Option Value), WM (d + 8) 223 (fun vs N => vs = [.int (iz (rnA w ta l n sd tld what))] ∧ Fr aRe M N ∧ N.1 768 0 = nI 0) 416 [some (.ref 768), o1, some (.int (nI n)), o3, some (.int (nI (cond tld 1 0))), some (.int (nI what)), some (.int (nI (rnL w ta sd tld (rnS w ta l sd tld y) y))), some (.int (nI (rnQ w ta (rnS w ta l sd tld y) y - min (w 16) (rnQ w ta (rnS w ta l sd tld y) y)))), some (.int (nI (rnS w ta l sd tld y 2 + min (w 16) (rnQ w ta (rnS w ta l sd tld y) y)))), some (.int (sdN sd (y + 1))), some (.int (iz (rnU w ta l sd tld (y + 1) what))), some (.int (iz (((if rnL w ta sd tld (rnS w ta l sd tld y) y = 0 ∧ rnS w ta l sd tld y 4 = 0 then y + 1 else rnS w ta l sd tld y 4 : Nat) : Int) - 1))), some (.int (iz (((if rnS w ta l sd tld y 3 = 1 ∧ rnS w ta l sd tld y 5 = 0 then y + 1 else rnS w ta l sd tld y 5 : Nat) : Int) - 1))), some (.int (nI (rnS w ta l sd tld y 3))), some (.int (nI y)), some (.int (nI (cond (rnM w ta (rnS w ta l sd tld y) y) 1 0))), o16, o17] [] N := by
          intro o1 o3 o16 o17
          have e4 : (if rnL w ta sd tld (rnS w ta l sd tld y) y = 0 ∧ rnS w ta l sd tld y 4 = 0 then y + 1 else rnS w ta l sd tld y 4 : Nat) = rnS w ta l sd tld (y + 1) 4 := rfl
          have e5 : (if rnS w ta l sd tld y 3 = 1 ∧ rnS w ta l sd tld y 5 = 0 then y + 1 else rnS w ta l sd tld y 5 : Nat) = rnS w ta l sd tld (y + 1) 5 := rfl
          have e0 : rnL w ta sd tld (rnS w ta l sd tld y) y = rnS w ta l sd tld (y + 1) 0 := rfl
          have e1 : rnQ w ta (rnS w ta l sd tld y) y - min (w 16) (rnQ w ta (rnS w ta l sd tld y) y) = rnS w ta l sd tld (y + 1) 1 := rfl
          have e2 : rnS w ta l sd tld y 2 + min (w 16) (rnQ w ta (rnS w ta l sd tld y) y) = rnS w ta l sd tld (y + 1) 2 := rfl
          have e3 : rnS w ta l sd tld (y + 1) 3 = if rnS w ta l sd tld y 3 = 1 ∨ rnM w ta (rnS w ta l sd tld y) y = true then 1 else 0 := rfl
          have go : ∀ (o1 o3 o15 o16 o17 : Option Value), WM (d + 8) 223 (fun vs N => vs = [.int (iz (rnA w ta l n sd tld what))] ∧ Fr aRe M N ∧ N.1 768 0 = nI 0) 431 [some (.ref 768), o1, some (.int (nI n)), o3, some (.int (nI (cond tld 1 0))), some (.int (nI what)), some (.int (nI (rnL w ta sd tld (rnS w ta l sd tld y) y))), some (.int (nI (rnQ w ta (rnS w ta l sd tld y) y - min (w 16) (rnQ w ta (rnS w ta l sd tld y) y)))), some (.int (nI (rnS w ta l sd tld y 2 + min (w 16) (rnQ w ta (rnS w ta l sd tld y) y)))), some (.int (sdN sd (y + 1))), some (.int (iz (rnU w ta l sd tld (y + 1) what))), some (.int (iz (((if rnL w ta sd tld (rnS w ta l sd tld y) y = 0 ∧ rnS w ta l sd tld y 4 = 0 then y + 1 else rnS w ta l sd tld y 4 : Nat) : Int) - 1))), some (.int (iz (((if rnS w ta l sd tld y 3 = 1 ∧ rnS w ta l sd tld y 5 = 0 then y + 1 else rnS w ta l sd tld y 5 : Nat) : Int) - 1))), none, some (.int (nI y)), o15, o16, o17] [.int (nI (rnS w ta l sd tld (y + 1) 3))] N := by
            intro o1 o3 o15 o16 o17
            refine go_in (e223_431 ?_)
            rw [nI_s, e4, e5, e0, e1, e2]
            exact ih (y + 1) N _ _ _ _ _ (by omega) hF
          have tm : nI (cond (rnM w ta (rnS w ta l sd tld y) y) 1 0) = 0 ↔ ¬ rnM w ta (rnS w ta l sd tld y) y = true := by
            cases rnM w ta (rnS w ta l sd tld y) y <;> decide
          refine go_in (e223_416 ?_)
          rw [hb01, tm]
          refine ⟨fun e => go_in (e223_426 ?_), fun e => ⟨fun e6 => go_in (e223_430 ?_), fun e6 => go_in (e223_426 ?_)⟩⟩
          · have t := go none none none none none
            rw [e3, if_pos (Or.inl (by omega))] at t
            exact t
          · have t := go none none none none none
            rw [e3, if_neg (show ¬ (rnS w ta l sd tld y 3 = 1 ∨ rnM w ta (rnS w ta l sd tld y) y = true) from fun q => by rcases q with q | q; exact e q; exact e6 q)] at t
            exact t
          · have t := go none none none none none
            have e7 : rnM w ta (rnS w ta l sd tld y) y = true := by
              cases h : rnM w ta (rnS w ta l sd tld y) y with
              | true => rfl
              | false => exact absurd (by rw [h]; decide) e6
            rw [e3, if_pos (Or.inr e7)] at t
            exact t
        refine e223_400 ?_
        rw [l0q, iz_0le ⟨by omega, by omega⟩]
        refine ⟨fun e => ?_, fun e => ⟨fun e8 => ?_, fun e8 => ?_⟩⟩
        · have t := last none none none (some (.int (nI (rnN w sd tld y))))
          rw [if_neg (fun q => e q.1)] at t
          exact t
        · have t := last none none none (some (.int (nI (rnN w sd tld y))))
          rw [if_neg (fun q => by omega)] at t
          exact t
        · have t := last none none none (some (.int (nI (rnN w sd tld y))))
          have ey : iz (((y + 1 : Nat) : Int) - 1) = nI y := by rw [iz_n]; congr 1; omega
          rw [if_pos ⟨e, by omega⟩, ey] at t
          exact t
      have fin : ∀ N (o1 o3 o15 o16 o17 : Option Value), Fr aYB M1 N → N.1 768 19 = nI (lowS (yW w (w 10)) (kW w) (rnv w ta (rnS w ta l sd tld y) y) (rnS w ta l sd tld y 0)) → WM (d + 8) 223 (fun vs N => vs = [.int (iz (rnA w ta l n sd tld what))] ∧ Fr aRe M N ∧ N.1 768 0 = nI 0) 388 [some (.ref 768), o1, some (.int (nI n)), o3, some (.int (nI (cond tld 1 0))), some (.int (nI what)), none, some (.int (nI (rnQ w ta (rnS w ta l sd tld y) y - min (w 16) (rnQ w ta (rnS w ta l sd tld y) y)))), some (.int (nI (rnS w ta l sd tld y 2 + min (w 16) (rnQ w ta (rnS w ta l sd tld y) y)))), some (.int (sdN sd (y + 1))), some (.int (iz (rnU w ta l sd tld (y + 1) what))), some (.int (iz ((rnS w ta l sd tld y 4 : Int) - 1))), some (.int (iz (((if rnS w ta l sd tld y 3 = 1 ∧ rnS w ta l sd tld y 5 = 0 then y + 1 else rnS w ta l sd tld y 5 : Nat) : Int) - 1))), some (.int (nI (rnS w ta l sd tld y 3))), some (.int (nI y)), some (.int (nI (cond (rnM w ta (rnS w ta l sd tld y) y) 1 0))), o16, o17] [.int (nI (rnN w sd tld y))] N := by
        intro N o1 o3 o15 o16 o17 hF hlow
        exact go_in (fin2 N none none none none none hF hlow)
      -- behind the year: the lower well, the rain
      have low : ∀ N (o1 o3 o6 o16 o17 : Option Value), Fr aYB M1 N → YV w (w 10) (rnv w ta (rnS w ta l sd tld y) y) (rnS w ta l sd tld y 0) N → WM (d + 8) 223 (fun vs N => vs = [.int (iz (rnA w ta l n sd tld what))] ∧ Fr aRe M N ∧ N.1 768 0 = nI 0) 282 [some (.ref 768), o1, some (.int (nI n)), o3, some (.int (nI (cond tld 1 0))), some (.int (nI what)), o6, some (.int (nI (rnS w ta l sd tld y 1))), some (.int (nI (rnS w ta l sd tld y 2))), some (.int (sdN sd y)), some (.int (iz (rnU w ta l sd tld (y + 1) what))), some (.int (iz ((rnS w ta l sd tld y 4 : Int) - 1))), some (.int (iz (((if rnS w ta l sd tld y 3 = 1 ∧ rnS w ta l sd tld y 5 = 0 then y + 1 else rnS w ta l sd tld y 5 : Nat) : Int) - 1))), some (.int (nI (rnS w ta l sd tld y 3))), some (.int (nI y)), some (.int (nI (cond (rnM w ta (rnS w ta l sd tld y) y) 1 0))), o16, o17] [] N := by
        intro N o1 o3 o6 o16 o17 hF hY
        have hw' := hw1.of hF (fun j _ => rfl)
        have m14 : N.1 50177 14 = nI (w 14) := hw'.n (by decide) rfl
        have m16 : N.1 50177 16 = nI (w 16) := hw'.n (by decide) rfl
        have m13 : N.1 50177 13 = nI (w 13) := hw'.n (by decide) rfl
        have hlk : lkd (kW w) (lw (rnv w ta (rnS w ta l sd tld y) y) (rnS w ta l sd tld y 0 - w (32 + 5 * w 10 + 1)) (rnS w ta l sd tld y 0) (w 8)) ≤ 1 := (lkd_le hyB.1.2.2.1).2
        refine go_in (e223_282 ⟨nI_in2 (by decide) (by decide), ?_⟩)
        rw [nI_c (by decide), m14, hY.2.2.2.2, nI_add, iz_n (w 14), iz_n (rnS w ta l sd tld y 1 + lkd (kW w) (lw (rnv w ta (rnS w ta l sd tld y) y) (rnS w ta l sd tld y 0 - w (32 + 5 * w 10 + 1)) (rnS w ta l sd tld y 0) (w 8)))]
        refine useC (upC (c231 (d := d) (i32_n (by omega)) (i32_n (by omega))) (by omega)) fun vs N2 h => ?_
        obtain ⟨rfl, h⟩ := h
        have h := h.symm
        subst h
        rw [iz_min_nn]
        have hq : min (w 14) (rnS w ta l sd tld y 1 + lkd (kW w) (lw (rnv w ta (rnS w ta l sd tld y) y) (rnS w ta l sd tld y 0 - w (32 + 5 * w 10 + 1)) (rnS w ta l sd tld y 0) (w 8))) = rnQ w ta (rnS w ta l sd tld y) y := rfl
        have hq7 : rnQ w ta (rnS w ta l sd tld y) y ≤ 7 := by
          have : rnQ w ta (rnS w ta l sd tld y) y ≤ w 14 := Nat.min_le_left _ _
          omega
        rw [hq]
        refine e223_299 ⟨nI_in2 (by decide) (by decide), ?_⟩
        rw [nI_c (by decide), m16, iz_n (rnQ w ta (rnS w ta l sd tld y) y), iz_n (w 16)]
        refine useC (upC (c231 (d := d) (i32_n (by omega)) (i32_n (by omega))) (by omega)) fun vs N2 h => ?_
        obtain ⟨rfl, h⟩ := h
        have h := h.symm
        subst h
        rw [iz_min_nn, Nat.min_comm (rnQ w ta (rnS w ta l sd tld y) y) (w 16), ← iz_n]
        refine e223_313 ?_
        rw [nI_sub (Nat.min_le_right _ _), nI_add, ← sdN_s]
        refine ⟨fun e => go_in (e223_375 ?_), fun e => ⟨nI_in2 (by decide) (by decide), ?_⟩⟩
        · have ht : tld = false := by cases tld <;> first | rfl | exact absurd e (by decide)
          have f0 := fin N
          have hrn : rnN w sd tld y = rnR w 3 0 (b15 (sdN sd (y + 1)) % (w 2 + w 3 + w 4 + w 5)) := by rw [ht]; exact rnN_f w sd y
          rw [in_s16]
          refine useC (upC (c222 (d := d) hw' hb (b15_lt _)) (by omega)) fun vs N2 h => ?_
          obtain ⟨rfl, h⟩ := h
          have h := h.symm
          subst h
          rw [← hrn]
          exact fin2 N none none none none none hF hY.2.2.2.1
        · have ht : tld = true := by cases tld <;> first | rfl | exact absurd rfl e
          have hrn : rnN w sd tld y = if y < w 13 then w (75 + y) else 0 := by rw [ht]; exact rnN_t w sd y
          have t := fin N none none none none none hF hY.2.2.2.1
          have t2 := fin N none none none (some (.int (nI (min (w 16) (rnQ w ta (rnS w ta l sd tld y) y))))) none hF hY.2.2.2.1
          rw [nI_c (by decide), m13, nI_leI (by omega) (by omega), nI_add 75 y]
          refine ⟨fun e => go_in (e223_371 ?_), fun e => ⟨nI_in2 (by omega) (by decide), ?_⟩⟩
          · rw [hrn, if_neg (show ¬ y < w 13 by omega)] at t
            exact t
          · have m75 : N.1 50177 (75 + y) = nI (w (75 + y)) := hw'.n (by omega) (shf_no (by omega))
            rw [nI_c (by omega), m75]
            rw [hrn, if_pos (show y < w 13 by omega)] at t2
            exact t2
      -- whether some farm wants more
      have want : ∀ m f N (o1 o3 o17 : Option Value), f + m = w 8 → Fr aYB M1 N → WR w (rnv w ta (rnS w ta l sd tld y) y) N → WM (d + 8) 223 (fun vs N => vs = [.int (iz (rnA w ta l n sd tld what))] ∧ Fr aRe M N ∧ N.1 768 0 = nI 0) 205 [some (.ref 768), o1, some (.int (nI n)), o3, some (.int (nI (cond tld 1 0))), some (.int (nI what)), some (.int (nI (rnS w ta l sd tld y 0))), some (.int (nI (rnS w ta l sd tld y 1))), some (.int (nI (rnS w ta l sd tld y 2))), some (.int (sdN sd y)), some (.int (iz (rnU w ta l sd tld y what))), some (.int (iz ((rnS w ta l sd tld y 4 : Int) - 1))), some (.int (iz (((if rnS w ta l sd tld y 3 = 1 ∧ rnS w ta l sd tld y 5 = 0 then y + 1 else rnS w ta l sd tld y 5 : Nat) : Int) - 1))), some (.int (nI (rnS w ta l sd tld y 3))), some (.int (nI y)), some (.int (nI (cond (anB (fun f => decide (waW w ta 0 (rnS w ta l sd tld y 0) f < rnv w ta (rnS w ta l sd tld y) y f)) f) 1 0))), some (.int (nI f)), o17] [] N := by
        intro m
        induction m with
        | zero =>
          intro f N o1 o3 o17 hf hF hW
          have hf : f = w 8 := by omega
          subst hf
          have hw' := hw1.of hF (fun j _ => rfl)
          refine go_in (e223_205 (useC (upC (c135 (d := d) hw') (by omega)) fun vs N2 h => ?_))
          obtain ⟨rfl, h⟩ := h
          have h := h.symm
          subst h
          refine e223_211 (br_t (nI_le (Nat.le_refl _) (by omega)) (go_in (e223_251 (useC (upC (c174 (d := d) hw') (by omega)) fun vs N2 h => ?_))))
          obtain ⟨rfl, h⟩ := h
          have h := h.symm
          subst h
          refine e223_258 (useC (upC (c173 (d := d) hw' hb hW (fun f => rnv_3 hb _ _ f) (l := rnS w ta l sd tld y 0) (by omega) w10) (by omega)) fun vs N3 h => ?_)
          obtain ⟨rfl, hF3, hY⟩ := h
          have hF3' := hF.tr (hF3.up aYearR_yb)
          have hw3 := hw1.of hF3' (fun j _ => rfl)
          refine e223_261 (useC (upC (c135 (d := d) hw3) (by omega)) fun vs N4 h => ?_)
          obtain ⟨rfl, h⟩ := h
          have h := h.symm
          subst h
          have hmr : anB (fun f => decide (waW w ta 0 (rnS w ta l sd tld y 0) f < rnv w ta (rnS w ta l sd tld y) y f)) (w 8) = rnM w ta (rnS w ta l sd tld y) y := rfl
          have hH1 : rnH w ta l sd tld (y + 1) what = rnH w ta l sd tld y what + if what < w 8 then gnW w (w 10) (rnv w ta (rnS w ta l sd tld y) y) (rnS w ta l sd tld y 0) what else 0 := rfl
          rw [hmr]
          refine e223_267 ?_
          rw [nI_leI (by omega) (by omega)]
          refine ⟨fun e => ?_, fun e => ⟨nI_in2 (by omega) (by decide), ?_⟩⟩
          · have t := low N3 none none (some (.int (nI (rnS w ta l sd tld y 0)))) none none hF3' hY
            have eu : ∀ q, rnU w ta l sd tld q what = 0 := fun q => if_neg (show ¬ what < w 8 by omega)
            rw [eu] at t ⊢
            exact t
          · have t := low N3 none none (some (.int (nI (rnS w ta l sd tld y 0)))) none none hF3' hY
            rw [nI_c (by omega), hY.2.1 what (by omega)]
            have eu : ∀ q, rnU w ta l sd tld q what = rnH w ta l sd tld q what := fun q => if_pos (show what < w 8 by omega)
            rw [eu, hH1, if_pos (show what < w 8 by omega)] at t
            rw [eu, iz_add]
            exact t
        | succ m ih2 =>
          intro f N o1 o3 o17 hf hF hW
          have hf8 : f < w 8 := by omega
          have hw' := hw1.of hF (fun j _ => rfl)
          have hs : anB (fun f => decide (waW w ta 0 (rnS w ta l sd tld y 0) f < rnv w ta (rnS w ta l sd tld y) y f)) (f + 1) = (anB (fun f => decide (waW w ta 0 (rnS w ta l sd tld y 0) f < rnv w ta (rnS w ta l sd tld y) y f)) f || decide (waW w ta 0 (rnS w ta l sd tld y 0) f < rnv w ta (rnS w ta l sd tld y) y f)) := rfl
          have push : ∀ (t : Bool) N (o1 o3 o15 o17 : Option Value), Fr aYB M1 N → WR w (rnv w ta (rnS w ta l sd tld y) y) N → anB (fun f => decide (waW w ta 0 (rnS w ta l sd tld y 0) f < rnv w ta (rnS w ta l sd tld y) y f)) (f + 1) = t → WM (d + 8) 223 (fun vs N => vs = [.int (iz (rnA w ta l n sd tld what))] ∧ Fr aRe M N ∧ N.1 768 0 = nI 0) 243 [some (.ref 768), o1, some (.int (nI n)), o3, some (.int (nI (cond tld 1 0))), some (.int (nI what)), some (.int (nI (rnS w ta l sd tld y 0))), some (.int (nI (rnS w ta l sd tld y 1))), some (.int (nI (rnS w ta l sd tld y 2))), some (.int (sdN sd y)), some (.int (iz (rnU w ta l sd tld y what))), some (.int (iz ((rnS w ta l sd tld y 4 : Int) - 1))), some (.int (iz (((if rnS w ta l sd tld y 3 = 1 ∧ rnS w ta l sd tld y 5 = 0 then y + 1 else rnS w ta l sd tld y 5 : Nat) : Int) - 1))), some (.int (nI (rnS w ta l sd tld y 3))), some (.int (nI y)), o15, some (.int (nI f)), o17] [.int (nI (cond t 1 0))] N := by
            intro t N o1 o3 o15 o17 hF hW ht
            refine go_in (e223_243 ?_)
            rw [nI_s, ← ht]
            exact ih2 (f + 1) N _ _ _ (by omega) hF hW
          refine go_in (e223_205 (useC (upC (c135 (d := d) hw') (by omega)) fun vs N2 h => ?_))
          obtain ⟨rfl, h⟩ := h
          have h := h.symm
          subst h
          refine e223_211 (br_f (nI_ge (by omega) (by omega)) ⟨fun e => go_in (e223_238 ?_), fun e => ⟨nI_in2 (by omega) (by decide), ?_⟩⟩)
          · have ht : anB (fun f => decide (waW w ta 0 (rnS w ta l sd tld y 0) f < rnv w ta (rnS w ta l sd tld y) y f)) f = true := by
              cases h : anB (fun f => decide (waW w ta 0 (rnS w ta l sd tld y 0) f < rnv w ta (rnS w ta l sd tld y) y f)) f with
              | true => rfl
              | false => rw [h] at e; exact absurd rfl e
            exact push true N _ _ _ _ hF hW (by rw [hs, ht]; rfl)
          · have ht : anB (fun f => decide (waW w ta 0 (rnS w ta l sd tld y 0) f < rnv w ta (rnS w ta l sd tld y) y f)) f = false := by
              cases h : anB (fun f => decide (waW w ta 0 (rnS w ta l sd tld y 0) f < rnv w ta (rnS w ta l sd tld y) y f)) f with
              | false => rfl
              | true => rw [h] at e; exact absurd e (by decide)
            obtain ⟨pd, hpn⟩ := NP.pn (w := w) (hp1.of hF rfl rfl)
            rw [nI_c (by omega), hW f hf8]
            refine useC (upC (c171 (d := d) hw' hb (hD1.of hF (fun j => rfl)) hpn (l := rnS w ta l sd tld y 0) (f := f) (b := 0) (by omega) hf8 (by decide)) (by omega)) fun vs N3 h => ?_
            obtain ⟨rfl, hF3⟩ := h
            have hF3' : Fr aYB M1 N3 := hF.tr (hF3.up fun k j q => aWant_yb k j (by unfold aWant; rw [q]; rfl))
            have hW3 : WR w (rnv w ta (rnS w ta l sd tld y) y) N3 := fun g hg => by rw [(hF3 50192 g rfl).1]; exact hW g hg
            have hwr : wRf w ta (-1) pd 0 (rnS w ta l sd tld y 0) f = waW w ta 0 (rnS w ta l sd tld y 0) f := by rw [wRf_no]
            have hv3 := rnv_3 (ta := ta) hb (rnS w ta l sd tld y) y f
            have hw3 : waW w ta 0 (rnS w ta l sd tld y 0) f ≤ 3 := wbd_le
            refine e223_235 ?_
            rw [hwr, nI_leI (by omega) (by omega)]
            refine ⟨fun e => go_in (e223_242 (push false N3 _ _ _ _ hF3' hW3 ?_)), fun e => go_in (e223_238 (push true N3 _ _ _ _ hF3' hW3 ?_))⟩
            · rw [hs, ht, decide_eq_false (by omega)]
              rfl
            · rw [hs, ht, decide_eq_true (by omega)]
              rfl
      -- breaks
      have brks : ∀ m c N (o1 o3 o17 : Option Value), c + m = w 12 → Fr aYB M1 N → WR w (brk w y (waW w ta (rnS w ta l sd tld y 3) (rnS w ta l sd tld y 0)) c) N → WM (d + 8) 223 (fun vs N => vs = [.int (iz (rnA w ta l n sd tld what))] ∧ Fr aRe M N ∧ N.1 768 0 = nI 0) 134 [some (.ref 768), o1, some (.int (nI n)), o3, some (.int (nI (cond tld 1 0))), some (.int (nI what)), some (.int (nI (rnS w ta l sd tld y 0))), some (.int (nI (rnS w ta l sd tld y 1))), some (.int (nI (rnS w ta l sd tld y 2))), some (.int (sdN sd y)), some (.int (iz (rnU w ta l sd tld y what))), some (.int (iz ((rnS w ta l sd tld y 4 : Int) - 1))), some (.int (iz (((if rnS w ta l sd tld y 3 = 1 ∧ rnS w ta l sd tld y 5 = 0 then y + 1 else rnS w ta l sd tld y 5 : Nat) : Int) - 1))), some (.int (nI (rnS w ta l sd tld y 3))), some (.int (nI y)), some (.int (nI 0)), some (.int (nI c)), o17] [] N := by
        intro m
        induction m with
        | zero =>
          intro c N o1 o3 o17 hc hF hW
          have hc : c = w 12 := by omega
          subst hc
          have m12 : N.1 50177 12 = nI (w 12) := (hw1.of hF (fun j _ => rfl)).n (by decide) rfl
          refine go_in (e223_134 ⟨nI_in2 (by decide) (by decide), ?_⟩)
          rw [nI_c (by decide), m12]
          exact br_t (nI_le (Nat.le_refl _) (by omega)) (go_in (e223_202 (want (w 8) 0 N none none none (by omega) hF hW)))
        | succ m ih2 =>
          intro c N o1 o3 o17 hc hF hW
          have hw' := hw1.of hF (fun j _ => rfl)
          have m12 : N.1 50177 12 = nI (w 12) := hw'.n (by decide) rfl
          have hB := hb.2.2.2.2.2.2.2.1 c (by omega)
          have r0 : N.1 50177 (57 + 3 * c) = nI (w (57 + 3 * c)) := hw'.n (by omega) (shf_no (by omega))
          have r1 : N.1 50177 (57 + 3 * c + 1) = nI (w (58 + 3 * c)) := by rw [show 57 + 3 * c + 1 = 58 + 3 * c by omega]; exact hw'.n (by omega) (shf_no (by omega))
          have r2 : N.1 50177 (57 + 3 * c + 2) = nI (w (59 + 3 * c)) := by rw [show 57 + 3 * c + 2 = 59 + 3 * c by omega]; exact hw'.n (by omega) (shf_no (by omega))
          have hs : brk w y (waW w ta (rnS w ta l sd tld y 3) (rnS w ta l sd tld y 0)) (c + 1) = if w (57 + 3 * c) = y then V1 (brk w y (waW w ta (rnS w ta l sd tld y 3) (rnS w ta l sd tld y 0)) c) (w (58 + 3 * c)) (w (59 + 3 * c)) else brk w y (waW w ta (rnS w ta l sd tld y 3) (rnS w ta l sd tld y 0)) c := rfl
          have he : nI (w (57 + 3 * c)) = nI y ↔ w (57 + 3 * c) = y := by
            rw [iz_n, iz_n, iz_eq (i32_n (by omega)) (i32_n (by omega))]
            omega
          refine go_in (e223_134 ⟨nI_in2 (by decide) (by decide), ?_⟩)
          rw [nI_c (show 12 < 2147483648 by decide), m12]
          refine br_f (nI_ge (by omega) (by omega)) ?_
          rw [nI_mul, nI_add, nI_add, nI_add, nI_c (show 57 + 3 * c < 2147483648 by omega), nI_c (show 57 + 3 * c + 1 < 2147483648 by omega), nI_c (show 57 + 3 * c + 2 < 2147483648 by omega), r0, r1, r2, nI_c (show w (58 + 3 * c) < 2147483648 by omega), he]
          refine ⟨nI_in2 (by omega) (by decide), fun e => go_in (e223_196 ?_), fun e => ⟨nI_in2 (by omega) (by decide), nI_in2 (by omega) (by decide), nI_in2 (by omega) (by decide), go_in (e223_196 ?_)⟩⟩
          · rw [if_neg e] at hs
            rw [nI_s]
            exact ih2 (c + 1) N _ _ _ (by omega) hF (by rw [hs]; exact hW)
          · rw [if_pos e] at hs
            rw [nI_s]
            refine ih2 (c + 1) _ _ _ _ (by omega) (hF.sI rfl) fun g hg => ?_
            rw [sI_v, hs]
            unfold V1
            by_cases q : g = w (58 + 3 * c)
            · rw [if_pos ⟨rfl, q⟩, if_pos q]
            · rw [if_neg (fun e => q e.2), if_neg q]; exact hW g hg
      -- the year
      have start : ∀ (o1 o3 o15 o16 o17 : Option Value), WM (d + 8) 223 (fun vs N => vs = [.int (iz (rnA w ta l n sd tld what))] ∧ Fr aRe M N ∧ N.1 768 0 = nI 0) 120 [some (.ref 768), o1, some (.int (nI n)), o3, some (.int (nI (cond tld 1 0))), some (.int (nI what)), some (.int (nI (rnS w ta l sd tld y 0))), some (.int (nI (rnS w ta l sd tld y 1))), some (.int (nI (rnS w ta l sd tld y 2))), some (.int (sdN sd y)), some (.int (iz (rnU w ta l sd tld y what))), some (.int (iz ((rnS w ta l sd tld y 4 : Int) - 1))), some (.int (iz (((if rnS w ta l sd tld y 3 = 1 ∧ rnS w ta l sd tld y 5 = 0 then y + 1 else rnS w ta l sd tld y 5 : Nat) : Int) - 1))), some (.int (nI (rnS w ta l sd tld y 3))), some (.int (nI y)), o15, o16, o17] [] N := by
        intro o1 o3 o15 o16 o17
        obtain ⟨pd, hpn⟩ := NP.pn (w := w) (hp1.of hF rfl rfl)
        refine go_in (e223_120 (useC (upC (c175 (d := d) (hw1.of hF (fun j _ => rfl)) hb (hD1.of hF (fun j => rfl)) hpn (l := rnS w ta l sd tld y 0) (b := rnS w ta l sd tld y 3) (by omega) (by omega)) (by omega)) fun vs N2 h => ?_))
        obtain ⟨rfl, hF2, hv⟩ := h
        rw [wRf_no] at hv
        exact e223_131 (brks (w 12) 0 N2 none none none (by omega) (hF.tr (hF2.up aWant_yb)) hv)
      refine go_in (e223_100 (br_f (nI_ge (by omega) (by omega)) ?_))
      rw [hb01, iz_0le ⟨by omega, by omega⟩]
      refine ⟨fun e => ?_, fun e => ⟨fun e2 => ?_, fun e2 => ?_⟩⟩
      · have t := start none none none none none
        rw [if_neg (fun q => e q.1)] at t
        exact t
      · have t := start none none none none none
        rw [if_neg (fun q => by omega)] at t
        exact t
      · have t := start none none none none none
        have ey : iz (((y + 1 : Nat) : Int) - 1) = nI y := by rw [iz_n]; congr 1; omega
        rw [if_pos ⟨by omega, by omega⟩, ey] at t
        exact t
  have t := main n 0 M1 (some (.int (nI l))) (some (.int sd)) none none none (by omega) Fr.rf
  have e10' : (rnU w ta l sd tld 0 what) = 0 := by unfold rnU; split <;> rfl
  rw [e10'] at t
  rw [nI_neg1]
  exact t
end RU
