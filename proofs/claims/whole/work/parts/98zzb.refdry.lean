/-! The reference's rows: dry, part, most, lasts. -/
def aDr (k j : Nat) : Bool := aYB k j || (Nat.beq k 50215 || Nat.beq k 50216)
theorem aYB_dr : ∀ k j, aYB k j = true → aDr k j = true := fun k j h => by unfold aDr; rw [h]; rfl
theorem aDr_re : ∀ k j, aDr k j = true → aRe k j = true := fun k j h => by
  unfold aDr at h
  simp only [Bool.or_eq_true, Nat.beq_eq] at h
  rcases h with h | h
  · exact aBD_re k j (aYB_bd k j h)
  · exact aRe_t.mpr (by omega)
theorem yW_r {w : Nat → Nat} {r : Nat} : ∀ q, q < 4 → yW w r (7 + q) = w (2 + q) := fun q hq => by
  rcases q with _ | _ | _ | _ | q
  · rfl
  · rfl
  · rfl
  · rfl
  · omega
/-- what a level adds, up to a rain -/
def acc (w : Nat → Nat) (ta : Nat → Nat → Nat → Nat) (x : Nat → Int) (i r k : Nat) : Int := sm (fun l => x l * Wm (yW w (w 10)) (loD w ta) l k) i + x i * (prt (yW w (w 10)) (loD w ta i) k r : Int)
theorem acc_s (w : Nat → Nat) (ta : Nat → Nat → Nat → Nat) (x : Nat → Int) (i r k : Nat) (hr : r < 4) : acc w ta x i (r + 1) k = acc w ta x i r k + (if k = min (w 0) (loD w ta i + r) then x i * (w (2 + r) : Int) else 0) := by
  unfold acc
  have e : prt (yW w (w 10)) (loD w ta i) k (r + 1) = prt (yW w (w 10)) (loD w ta i) k r + if min (yW w (w 10) 0) (loD w ta i + r) = k then yW w (w 10) (7 + r) else 0 := rfl
  rw [e, yW_r r hr]
  have y0 : yW w (w 10) 0 = w 0 := rfl
  rw [y0]
  by_cases h : k = min (w 0) (loD w ta i + r)
  · rw [if_pos h, if_pos h.symm, Int.natCast_add, Int.mul_add]
    omega
  · rw [if_neg h, if_neg (fun q => h q.symm), Nat.add_zero, Int.add_zero]
theorem acc_0 (w : Nat → Nat) (ta : Nat → Nat → Nat → Nat) (x : Nat → Int) (i k : Nat) : acc w ta x i 0 k = sm (fun l => x l * Wm (yW w (w 10)) (loD w ta) l k) i := by
  unfold acc
  show _ + x i * ((0 : Nat) : Int) = _
  rw [Int.natCast_zero, Int.mul_zero, Int.add_zero]
theorem acc_4 (w : Nat → Nat) (ta : Nat → Nat → Nat → Nat) (x : Nat → Int) (i k : Nat) : acc w ta x i 4 k = acc w ta x (i + 1) 0 k := by
  rw [acc_0]
  rfl
section RD
variable {d : Nat} {M : Mm} {w : Nat → Nat} {ta : Nat → Nat → Nat → Nat}
/-- a year by the draws -/
theorem yrD (hw : MR w M) (hb : WB w) (hD : DRel w ta M) (hp : NP M) {i : Nat} (hi : i ≤ w 0) : SC (d + 7) 176 [.ref 768, .int (nI i), .int (nI 0)] M (fun vs N => vs = [] ∧ Fr aYB M N ∧ N.1 768 19 = nI (loD w ta i) ∧ ∀ f, f < w 8 → N.1 50193 f = nI (gtD w ta f i)) := by
  have w0 := (wb_w hb).1
  obtain ⟨pd, hpn⟩ := hp.pn (w := w)
  refine useC (c176 (d := d) hw hb hD hpn (l := i) (b := 0) (by omega) (by decide)) fun vs N h => ?_
  obtain ⟨h1, hF, -, y1, y2, y3, y4, y5⟩ := h
  rw [wRf_no] at y1 y4
  exact ⟨h1, hF, by rw [y4, loD_at (by omega)], y1⟩
theorem c213 (hw : MR w M) (hb : WB w) (hD : DRel w ta M) (hp : NP M) {l n : Nat} (hl : l ≤ w 0) (hn : n ≤ 20) : SC (d + 9) 213 [.ref 768, .int (nI l), .int (nI n)] M (fun vs N => vs = [.long (lz (drA w ta l n))] ∧ Fr aRe M N ∧ N.1 768 0 = nI 0) := by
  obtain ⟨w0, w8, w9⟩ := wb_w hb
  have hpt := hb.2.1.2
  have w10 : w 10 < w 9 := hb.2.2.2.1.2.2.1
  refine sC (by decide) rfl (go_in (e213_0 ?_))
  obtain ⟨M1, hM1⟩ : ∃ M1, M1 = sI M 768 0 (nI 0) := ⟨_, rfl⟩
  have hF1 : Fr aRe M M1 := by rw [hM1]; exact Fr.rf.sI rfl
  have e10 : M1.1 768 0 = nI 0 := by rw [hM1, sI_v, if_pos ⟨rfl, rfl⟩]
  rw [← hM1]
  have hw1 := hw.of hF1 (fun j _ => rfl)
  have hD1 := hD.of hF1 (fun j => rfl)
  have hp1 := hp.of hF1 rfl rfl
  rw [iz_n l]
  refine useC (upC (c137 (d := d) hw1 hb (a := (l : Int)) (i32_n (by omega))) (by omega)) fun vs N q => ?_
  obtain ⟨rfl, q⟩ := q
  have q := q.symm
  subst q
  rw [if_pos (by omega), ← iz_n l]
  refine e213_11 (useC (upC (c130f (d := d)) (by omega)) fun vs N q => ?_)
  obtain ⟨rfl, q⟩ := q
  have q := q.symm
  subst q
  refine e213_15 ⟨fun e => absurd rfl e, fun _ => ?_⟩
  rw [iz_n n, iz_n 0, iz_n 20]
  refine useC (upC (c131 (d := d) (a := (n : Int)) (i32_n (by omega)) (i32_n (by omega)) (i32_n (by omega))) (by omega)) fun vs N q => ?_
  obtain ⟨rfl, q⟩ := q
  have q := q.symm
  subst q
  rw [← iz_n n]
  refine e213_26 ⟨fun _ => go_in (e213_33 (go_in (e213_34 (useC (upC (c130f (d := d)) (by omega)) fun vs N q => ?_)))), fun e => absurd (by omega) (b01.mp e)⟩
  obtain ⟨rfl, q⟩ := q
  have q := q.symm
  subst q
  refine e213_38 ⟨fun _ => go_in (e213_43 ?_), fun e => absurd rfl e⟩
  have hdr : drA w ta l n = dyS (yW w (w 10)) (loD w ta) (NN w) l n := (dy_ok _ _ _ (show l ≤ yW w (w 10) 0 from hl) n).symm
  rw [hdr]
  have main : ∀ k t N (o1 o4 o6 o7 : Option Value), t + k = n → Fr aDr M1 N → (∀ i, i ≤ w 0 → N.2.1 50215 i = lz (dyX (yW w (w 10)) (loD w ta) l t i)) → WM (d + 8) 213 (fun vs N => vs = [.long (lz (dyS (yW w (w 10)) (loD w ta) (NN w) l n))] ∧ Fr aRe M N ∧ N.1 768 0 = nI 0) 78 [some (.ref 768), o1, some (.int (nI n)), some (.long (lz (dyS (yW w (w 10)) (loD w ta) (NN w) l t))), o4, some (.int (nI t)), o6, o7] [] N := by
    intro k
    induction k with
    | zero =>
      intro t N o1 o4 o6 o7 ht hF hX
      have ht : t = n := by omega
      subst ht
      exact go_in (e213_78 (br_t (nI_le (Nat.le_refl _) (by omega)) (go_in (e213_244 ⟨rfl, rfl, hF1.tr (hF.up aDr_re), by rw [(hF 768 0 rfl).1]; exact e10⟩))))
    | succ k ih =>
      intro t N o1 o4 o6 o7 ht hF hX
      refine go_in (e213_78 (br_f (nI_ge (by omega) (by omega)) (useC (upC (c136 (d := d) (hw1.of hF (fun j _ => rfl))) (by omega)) fun vs N2 h => ?_)))
      obtain ⟨rfl, rfl⟩ := h
      refine e213_89 ?_
      rw [lz_w (show w 2 + w 3 + w 4 + w 5 < 2147483648 by omega), lz_mul]
      -- copying
      have copy : ∀ m c N (o1 o4 o7 : Option Value), c + m = 8 → Fr aDr M1 N → (∀ i, i ≤ w 0 → N.2.1 50216 i = lz (dyX (yW w (w 10)) (loD w ta) l (t + 1) i)) → (∀ i, i ≤ w 0 → i < c → N.2.1 50215 i = lz (dyX (yW w (w 10)) (loD w ta) l (t + 1) i)) → WM (d + 8) 213 (fun vs N => vs = [.long (lz (dyS (yW w (w 10)) (loD w ta) (NN w) l n))] ∧ Fr aRe M N ∧ N.1 768 0 = nI 0) 211 [some (.ref 768), o1, some (.int (nI n)), some (.long (lz (dyS (yW w (w 10)) (loD w ta) (NN w) l (t + 1)))), o4, some (.int (nI t)), some (.int (nI c)), o7] [] N := by
        intro m
        induction m with
        | zero =>
          intro c N o1 o4 o7 hc hF hY hX
          have hc : c = 8 := by omega
          subst hc
          refine go_in (e213_211 (br_t (nI_le (Nat.le_refl _) (by decide)) (go_in (e213_238 ?_))))
          rw [nI_s]
          exact ih (t + 1) N _ _ _ _ (by omega) hF fun i hi => hX i hi (by omega)
        | succ m ih2 =>
          intro c N o1 o4 o7 hc hF hY hX
          refine go_in (e213_211 (br_f (nI_ge (by omega) (by decide)) ⟨nI_in2 (by omega) (by decide), nI_in2 (by omega) (by decide), ?_⟩))
          rw [nI_c (by omega), nI_s]
          refine ih2 (c + 1) _ _ _ _ (by omega) (hF.sJ rfl) (fun i hi => by rw [sJ_v, if_neg (by omega)]; exact hY i hi) fun i hi hic => ?_
          rw [sJ_v]
          by_cases e : i = c
          · rw [if_pos ⟨rfl, e⟩, ← e]; exact hY i hi
          · rw [if_neg (fun q => e q.2)]; exact hX i hi (by omega)
      -- the levels
      have lev : ∀ m i N (o1 o4 o7 : Option Value), i + m = w 0 + 1 → Fr aDr M1 N → (∀ i, i ≤ w 0 → N.2.1 50215 i = lz (dyX (yW w (w 10)) (loD w ta) l t i)) → (∀ k, k ≤ w 0 → N.2.1 50216 k = lz (acc w ta (dyX (yW w (w 10)) (loD w ta) l t) i 0 k)) → WM (d + 8) 213 (fun vs N => vs = [.long (lz (dyS (yW w (w 10)) (loD w ta) (NN w) l n))] ∧ Fr aRe M N ∧ N.1 768 0 = nI 0) 119 [some (.ref 768), o1, some (.int (nI n)), some (.long (lz (dyS (yW w (w 10)) (loD w ta) (NN w) l t * ((w 2 + w 3 + w 4 + w 5 : Nat) : Int)))), o4, some (.int (nI t)), some (.int (nI i)), o7] [] N := by
        intro m
        induction m with
        | zero =>
          intro i N o1 o4 o7 hi hF hX hA
          have hi : i = w 0 + 1 := by omega
          subst hi
          refine go_in (e213_119 (useC (upC (c134 (d := d) (hw1.of hF (fun j _ => rfl))) (by omega)) fun vs N2 h => ?_))
          obtain ⟨rfl, rfl⟩ := h
          have hfw : ∀ k, acc w ta (dyX (yW w (w 10)) (loD w ta) l t) (w 0 + 1) 0 k = fwd (yW w (w 10)) (loD w ta) (dyX (yW w (w 10)) (loD w ta) l t) k := fun k => acc_0 _ _ _ _ _
          have hS : dyS (yW w (w 10)) (loD w ta) (NN w) l t * ((w 2 + w 3 + w 4 + w 5 : Nat) : Int) + fwd (yW w (w 10)) (loD w ta) (dyX (yW w (w 10)) (loD w ta) l t) 0 = dyS (yW w (w 10)) (loD w ta) (NN w) l (t + 1) := rfl
          refine e213_125 (br_t (nI_lt (by omega) (by omega)) (go_in (e213_192 ⟨nI_in2 (by decide) (by decide), nI_in2 (by decide) (by decide), ?_⟩)))
          rw [nI_c (by decide), hA 0 (Nat.zero_le _), hfw, lz_add, hS]
          refine copy 8 0 _ _ _ _ (by omega) (hF.sJ rfl) (fun i hi => ?_) fun i hi h => absurd h (Nat.not_lt_zero _)
          rw [sJ_v]
          by_cases e : i = 0
          · subst e
            rw [if_pos ⟨rfl, rfl⟩]
            rfl
          · have e2 : dyX (yW w (w 10)) (loD w ta) l (t + 1) i = fwd (yW w (w 10)) (loD w ta) (dyX (yW w (w 10)) (loD w ta) l t) i := if_neg e
            rw [if_neg (fun q => e q.2), hA i hi, hfw, e2]
        | succ m ih2 =>
          intro i N o1 o4 o7 hi hF hX hA
          have hiw : i ≤ w 0 := by omega
          refine go_in (e213_119 (useC (upC (c134 (d := d) (hw1.of hF (fun j _ => rfl))) (by omega)) fun vs N2 h => ?_))
          obtain ⟨rfl, rfl⟩ := h
          refine e213_125 (br_f (nI_nlt (by omega) (by omega)) (useC (upC (yrD (d := d) (hw1.of hF (fun j _ => rfl)) hb (hD1.of hF (fun j => rfl)) (hp1.of hF rfl rfl) hiw) (by omega)) fun vs N3 h => ?_))
          obtain ⟨rfl, hF3, hlow, -⟩ := h
          have hF3' := hF.tr (hF3.up aYB_dr)
          refine e213_135 ?_
          have hlo7 : loD w ta i ≤ 7 := loV_le i
          have rain : ∀ m' r N (o1 o4 : Option Value), r + m' = 4 → Fr aDr M1 N → N.1 768 19 = nI (loD w ta i) → (∀ i, i ≤ w 0 → N.2.1 50215 i = lz (dyX (yW w (w 10)) (loD w ta) l t i)) → (∀ k, k ≤ w 0 → N.2.1 50216 k = lz (acc w ta (dyX (yW w (w 10)) (loD w ta) l t) i r k)) → WM (d + 8) 213 (fun vs N => vs = [.long (lz (dyS (yW w (w 10)) (loD w ta) (NN w) l n))] ∧ Fr aRe M N ∧ N.1 768 0 = nI 0) 138 [some (.ref 768), o1, some (.int (nI n)), some (.long (lz (dyS (yW w (w 10)) (loD w ta) (NN w) l t * ((w 2 + w 3 + w 4 + w 5 : Nat) : Int)))), o4, some (.int (nI t)), some (.int (nI i)), some (.int (nI r))] [] N := by
            intro m'
            induction m' with
            | zero =>
              intro r N o1 o4 hr hF hlow hX hA
              have hr : r = 4 := by omega
              subst hr
              refine go_in (e213_138 (br_t (nI_le (Nat.le_refl _) (by decide)) (go_in (e213_186 ?_))))
              rw [nI_s]
              exact ih2 (i + 1) N _ _ _ (by omega) hF hX fun k hk => by rw [hA k hk, acc_4]
            | succ m' ih3 =>
              intro r N o1 o4 hr hF hlow hX hA
              have hw' := hw1.of hF (fun j _ => rfl)
              refine go_in (e213_138 (br_f (nI_ge (by omega) (by decide)) ?_))
              rw [hlow]
              refine useC (upC (c177 (d := d) hw' hb (a := loD w ta i) (r := r) (by omega) (by omega)) (by omega)) fun vs N4 h => ?_
              obtain ⟨rfl, rfl⟩ := h
              have hwr : N4.1 50177 (2 + r) = nI (w (2 + r)) := hw'.n (by omega) (shf_no (by omega))
              have hw4 : w (2 + r) ≤ 4 := hb.2.1.1 r (by omega)
              have hmin : min (w 0) (loD w ta i + r) ≤ w 0 := Nat.min_le_left _ _
              refine e213_158 ?_
              rw [nI_add, nI_c (by omega), nI_c (by omega), nI_c (by omega), hwr, lz_w (show w (2 + r) < 2147483648 by omega), hA _ hmin, hX i hiw, lz_mul, lz_add, nI_s]
              refine ⟨nI_in2 (by omega) (by decide), nI_in2 (by omega) (by decide), nI_in2 (by omega) (by decide), nI_in2 (by omega) (by decide), ?_⟩
              refine ih3 (r + 1) _ _ _ (by omega) (hF.sJ rfl) hlow (fun i hi => by rw [sJ_v, if_neg (by omega)]; exact hX i hi) fun k hk => ?_
              rw [sJ_v, acc_s _ _ _ _ _ _ (show r < 4 by omega)]
              by_cases e : k = min (w 0) (loD w ta i + r)
              · rw [if_pos ⟨rfl, e⟩, if_pos e, e]
              · rw [if_neg (fun q => e q.2), if_neg e, Int.add_zero]; exact hA k hk
          exact rain 4 0 N3 _ _ (by omega) hF3' hlow (fun i hi => by rw [(hF3 50215 i rfl).2.1]; exact hX i hi) fun k hk => by rw [(hF3 50216 k rfl).2.1]; exact hA k hk
      have zero : ∀ m c N (o1 o4 o7 : Option Value), c + m = 8 → Fr aDr M1 N → (∀ i, i ≤ w 0 → N.2.1 50215 i = lz (dyX (yW w (w 10)) (loD w ta) l t i)) → (∀ i, i < c → N.2.1 50216 i = lz 0) → WM (d + 8) 213 (fun vs N => vs = [.long (lz (dyS (yW w (w 10)) (loD w ta) (NN w) l n))] ∧ Fr aRe M N ∧ N.1 768 0 = nI 0) 95 [some (.ref 768), o1, some (.int (nI n)), some (.long (lz (dyS (yW w (w 10)) (loD w ta) (NN w) l t * ((w 2 + w 3 + w 4 + w 5 : Nat) : Int)))), o4, some (.int (nI t)), some (.int (nI c)), o7] [] N := by
        intro m
        induction m with
        | zero =>
          intro c N o1 o4 o7 hc hF hX hA
          have hc : c = 8 := by omega
          subst hc
          exact go_in (e213_95 (br_t (nI_le (Nat.le_refl _) (by decide)) (go_in (e213_116 (lev (w 0 + 1) 0 N _ _ _ (by omega) hF hX fun k hk => by rw [hA k (by omega), acc_0]; rfl)))))
        | succ m ih2 =>
          intro c N o1 o4 o7 hc hF hX hA
          refine go_in (e213_95 (br_f (nI_ge (by omega) (by decide)) ⟨nI_in2 (by omega) (by decide), ?_⟩))
          rw [nI_c (by omega), nI_s]
          refine ih2 (c + 1) _ _ _ _ (by omega) (hF.sJ rfl) (fun i hi => by rw [sJ_v, if_neg (by omega)]; exact hX i hi) fun i hi => ?_
          rw [sJ_v]
          by_cases e : i = c
          · rw [if_pos ⟨rfl, e⟩]; rfl
          · rw [if_neg (fun q => e q.2)]; exact hA i (by omega)
      exact zero 8 0 N2 _ _ _ (by omega) hF hX fun i h => absurd h (Nat.not_lt_zero _)
  have init : ∀ m c N (o4 o5 o6 o7 : Option Value), c + m = 8 → Fr aDr M1 N → (∀ i, i < c → N.2.1 50215 i = lz (dyX (yW w (w 10)) (loD w ta) l 0 i)) → WM (d + 8) 213 (fun vs N => vs = [.long (lz (dyS (yW w (w 10)) (loD w ta) (NN w) l n))] ∧ Fr aRe M N ∧ N.1 768 0 = nI 0) 45 [some (.ref 768), some (.int (nI l)), some (.int (nI n)), some (.int (nI c)), o4, o5, o6, o7] [] N := by
    intro m
    induction m with
    | zero =>
      intro c N o4 o5 o6 o7 hc hF hX
      have hc : c = 8 := by omega
      subst hc
      exact go_in (e213_45 (br_t (nI_le (Nat.le_refl _) (by decide)) (go_in (e213_73 (main n 0 N _ _ _ _ (by omega) hF fun i hi => hX i (by omega))))))
    | succ m ih =>
      intro c N o4 o5 o6 o7 hc hF hX
      have hcl : nI c = nI l ↔ c = l := by
        rw [iz_n, iz_n, iz_eq (i32_n (by omega)) (i32_n (by omega))]
        omega
      have put : ∀ z : Int, z = (if c = l then 1 else 0) → WM (d + 8) 213 (fun vs N => vs = [.long (lz (dyS (yW w (w 10)) (loD w ta) (NN w) l n))] ∧ Fr aRe M N ∧ N.1 768 0 = nI 0) 66 [some (.ref 768), some (.int (nI l)), some (.int (nI n)), some (.int (nI c)), none, none, none, none] [.long (lz z), .int (nI c), .ref 50215] N := by
        intro z hz
        refine go_in (e213_66 ⟨nI_in2 (by omega) (by decide), ?_⟩)
        rw [nI_c (by omega), nI_s]
        refine ih (c + 1) _ _ _ _ _ (by omega) (hF.sJ rfl) fun i hi => ?_
        rw [sJ_v]
        by_cases e : i = c
        · rw [if_pos ⟨rfl, e⟩, e, hz]
          rfl
        · rw [if_neg (fun q => e q.2)]; exact hX i (by omega)
      refine go_in (e213_45 (br_f (nI_ge (by omega) (by decide)) ?_))
      rw [hcl]
      exact ⟨fun e => go_in (e213_65 (put 0 (by rw [if_neg e]))), fun e => put 1 (by rw [if_pos e])⟩
  exact init 8 0 M1 _ _ _ _ (by omega) Fr.rf fun i h => absurd h (Nat.not_lt_zero _)
end RD
