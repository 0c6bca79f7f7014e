/-! The class's trip: a year of it, and what it tells. -/
def TRP (w : Nat → Nat) (ta : Nat → Nat → Nat → Nat) (l0 : Nat) (sd : Int32) (tld : Bool) (n : Nat) (N : Mm) : Prop := (N.1 576 2 = nI (rnS w ta l0 sd tld n 0) ∧ (tld = false → N.1 576 3 = sdN sd n) ∧ N.1 576 4 = nI (cond tld 1 0) ∧ N.1 576 5 = nI (rnS w ta l0 sd tld n 3)) ∧ (∀ f, f < 3 → N.1 37894 f = iz (rnH w ta l0 sd tld n f)) ∧ (N.1 576 7 = iz ((rnS w ta l0 sd tld n 4 : Int) - 1) ∧ N.1 576 8 = iz ((rnS w ta l0 sd tld n 5 : Int) - 1) ∧ N.1 576 9 = nI (rnS w ta l0 sd tld n 1) ∧ N.1 576 10 = nI (rnS w ta l0 sd tld n 2))
def aTp (k j : Nat) : Bool := Nat.beq k 576 || (Nat.beq k 37894 || (aWish k j || aPump k j))
theorem aTp_640 : ∀ j, j < 7 → aTp 640 j = false := by decide
theorem aTp_cl : ∀ k j, aTp k j = true → aCl k j = true := fun k j h => by
  unfold aTp aWish aPump at h
  simp only [Bool.or_eq_true, Bool.and_eq_true, Nat.beq_eq] at h
  exact aCl_t.mpr (by omega)
theorem aWish_tp : ∀ k j, aWish k j = true → aTp k j = true := fun k j h => by
  unfold aTp
  rw [h]
  simp
theorem aPump_tp : ∀ k j, aPump k j = true → aTp k j = true := fun k j h => by
  unfold aTp
  rw [h]
  simp
theorem aTr_tp {j0 j1 : Nat} : ∀ k j, aTr j0 j1 k j = true → aTp k j = true := fun k j h => by
  unfold aTr at h
  have h1 := (Bool.and_eq_true_iff.mp h).1
  unfold aTp
  rw [h1]
  rfl
section TY
variable {d : Nat} {M : Mm} {w : Nat → Nat} {ta : Nat → Nat → Nat → Nat} {l0 : Nat} {sd : Int32} {tld : Bool}
theorem c55 (hT : TR 512 w ta M) : SC (d + 2) 55 [.ref 576, .int (nI l0), .int sd, .int (nI (cond tld 1 0))] M (fun vs N => vs = [] ∧ Fr aTp M N ∧ TRP w ta l0 sd tld 0 N) := by
  refine sC (by decide) rfl (go_in (e55_0 ⟨nI_tf _, Or.inl rfl, ?_⟩))
  have hF : Fr aTp M (sI (sI (sI (sI M 576 2 (nI l0)) 576 3 sd) 576 4 (nI (cond tld 1 0))) 576 5 (nI 0)) := (((Fr.rf.sI rfl).sI rfl).sI rfl).sI rfl
  refine useC (upC (c233 (d := d) (x := 37894) (v := nI 0) rfl rfl (by decide)) (by omega)) fun vs N h => ?_
  obtain ⟨rfl, rfl⟩ := h
  have b1 : M.1 33810 1 = nI (w 15) := hT.2.2.2.2.2.2.2.2 1 (by decide)
  refine e55_28 ⟨nI_in2 (by decide) (by decide), rfl, rfl, ((((hF.fI fun j => rfl).sI rfl).sI rfl).sI rfl).sI rfl, ?_, ?_, ?_⟩
  · refine ⟨?_, fun _ => ?_, ?_, ?_⟩
    · rfl
    · rfl
    · rfl
    · rfl
  · intro f hf
    rw [sI_v, if_neg (by omega), sI_v, if_neg (by omega), sI_v, if_neg (by omega), sI_v, if_neg (by omega), fI_v, if_pos ⟨rfl, show f < 3 from hf⟩]
    rfl
  · refine ⟨?_, ?_, ?_, ?_⟩
    · rw [sI_v, if_neg (by omega), sI_v, if_neg (by omega), sI_v, if_neg (by omega), sI_v, if_pos ⟨rfl, rfl⟩, nI_neg1]
      rfl
    · rw [sI_v, if_neg (by omega), sI_v, if_neg (by omega), sI_v, if_pos ⟨rfl, rfl⟩, nI_neg1]
      rfl
    · rw [sI_v, if_neg (by omega), sI_v, if_pos ⟨rfl, rfl⟩, nI_c (by decide)]
      show M.1 33810 1 = _
      rw [b1]
      rfl
    · rw [sI_v, if_pos ⟨rfl, rfl⟩]
      rfl
theorem c60 (hT : TR 512 w ta M) (hb : WB w) {n what : Nat} (hw : what < 8) (h : TRP w ta l0 sd tld n M) : SC (d + 1) 60 [.ref 576, .int (nI what)] M (fun vs N => vs = [.int (iz (rnA w ta l0 n sd tld what))] ∧ N = M) := by
  obtain ⟨⟨a1, a2, a3, a4⟩, b, c1, c2, c3, c4⟩ := h
  have w14 := hb.2.2.2.2.1
  have b0 : M.1 33810 0 = nI (w 14) := hT.2.2.2.2.2.2.2.2 0 (by decide)
  refine sC (by decide) rfl (go_in (e60_0 ?_))
  have q : ∀ a, a < 8 → (nI what = nI a ↔ what = a) := fun a ha => by
    rw [iz_n, iz_n, iz_eq (i32_n (by omega)) (i32_n (by omega))]
    omega
  rw [q 3 (by omega), q 4 (by omega), q 5 (by omega), q 6 (by omega), q 7 (by omega)]
  refine ⟨fun e => ?_, fun e3 => ⟨fun e => ?_, fun e4 => ⟨fun e => ?_, fun e5 => ⟨fun e => ?_, fun e6 => ⟨fun e => ?_, fun e7 => ?_⟩⟩⟩⟩⟩
  · subst e
    refine go_in (e60_36 ⟨rfl, ?_, rfl⟩)
    rw [a1, iz_n]
    rfl
  · subst e
    refine go_in (e60_41 ⟨rfl, ?_, rfl⟩)
    rw [c1]
    rfl
  · subst e
    refine go_in (e60_46 ⟨rfl, ?_, rfl⟩)
    rw [c2]
    rfl
  · subst e
    refine go_in (e60_51 ⟨nI_in2 (by decide) (by decide), ?_⟩)
    rw [nI_c (by decide), b0]
    have h0 : nI (w 14) = 0 ↔ w 14 = 0 := by
      rw [zero_nI, iz_n, iz_n, iz_eq (i32_n (by omega)) (i32_n (by omega))]
      omega
    have hA : rnA w ta l0 n sd tld 6 = if w 14 = 0 then -1 else (rnS w ta l0 sd tld n 1 : Int) := rfl
    rw [h0, hA]
    refine ⟨fun e => go_in (e60_67 (go_in (e60_71 ⟨rfl, ?_, rfl⟩))), fun e => go_in (e60_71 ⟨rfl, ?_, rfl⟩)⟩
    · rw [if_neg e, c3, iz_n]
    · rw [if_pos e, nI_neg1]
  · subst e
    refine go_in (e60_72 ⟨rfl, ?_, rfl⟩)
    rw [c4, iz_n]
    rfl
  · have hw3 : what < 3 := by omega
    refine go_in (e60_77 ⟨fun e => ?_, fun _ => br_f (nI_ge hw3 (by decide)) ⟨nI_in2 hw3 (by decide), go_in (e60_96 ⟨rfl, ?_, rfl⟩)⟩⟩)
    · rw [iz_n, iz_lt0 (i32_n (by omega))] at e
      omega
    · rw [nI_c (by omega), b what hw3]
      unfold rnA
      rw [if_pos hw3]
theorem c56 (hT : TR 512 w ta M) (hb : WB w) (hy : YR (yW w (w 10)) (kW w) M) (hfo : FO (yW w (w 10)) 41992 (foW w (w 10) (cstW w)) M) (hwa : WA (yW w (w 10)) (waW w ta) M) (hl0 : l0 ≤ w 0) {yr : Nat} (hyr : yr < 100) (hP : TRP w ta l0 sd tld yr M) : SC (d + 4) 56 [.ref 576, .int (nI yr)] M (fun vs N => vs = [] ∧ Fr aTp M N ∧ TRP w ta l0 sd tld (yr + 1) N) := by
  obtain ⟨w0, w8, w9⟩ := wb_w hb
  have w10 : w 10 < w 9 := hb.2.2.2.1.2.2.1
  have hyB := yB_of hb w10
  obtain ⟨⟨a1, a2, a3, a4⟩, hh, c1, c2, c3, c4⟩ := hP
  obtain ⟨g0, g1, g3, g4, g5⟩ := rnS_bd (ta := ta) (sd := sd) (tld := tld) hb hl0 yr
  have hT1 : rnS w ta l0 sd tld (yr + 1) = rnT w ta sd tld (rnS w ta l0 sd tld yr) yr := rfl
  have hH1 : ∀ f, rnH w ta l0 sd tld (yr + 1) f = rnH w ta l0 sd tld yr f + if f < w 8 then gnW w (w 10) (rnv w ta (rnS w ta l0 sd tld yr) yr) (rnS w ta l0 sd tld yr 0) f else 0 := fun f => rfl
  refine sC (by decide) rfl (go_in (e56_0 ?_))
  rw [a4]
  have hb01 : nI (rnS w ta l0 sd tld yr 3) = 0 ↔ ¬ rnS w ta l0 sd tld yr 3 = 1 := by
    rw [zero_nI, iz_n, iz_n, iz_eq (i32_n (by omega)) (i32_n (by omega))]
    omega
  -- behind what was first broken
  have P1 : ∀ N, Fr (aTr 8 8) M N → N.1 576 8 = iz (((if rnS w ta l0 sd tld yr 3 = 1 ∧ rnS w ta l0 sd tld yr 5 = 0 then yr + 1 else rnS w ta l0 sd tld yr 5 : Nat) : Int) - 1) → WM (d + 3) 56 (fun vs N => vs = [] ∧ Fr aTp M N ∧ TRP w ta l0 sd tld (yr + 1) N) 20 [some (.ref 576), some (.int (nI yr)), none, none] [] N := by
    intro N hF h8
    have hF' : Fr aTp M N := hF.up aTr_tp
    have P2 : WM (d + 3) 56 (fun vs N => vs = [] ∧ Fr aTp M N ∧ TRP w ta l0 sd tld (yr + 1) N) 40 [some (.ref 576), some (.int (nI yr)), none, none] [.int (nI (rnS w ta l0 sd tld yr 3)), .int (nI (rnS w ta l0 sd tld yr 0)), .ref 640] N := by
      refine go_in (e56_40 ?_)
      refine useC (upC (c67 (d := d) (l := rnS w ta l0 sd tld yr 0) (b := rnS w ta l0 sd tld yr 3) hyB (hwa.of hF' (fun j => rfl)) g0 (by omega)) (by omega)) fun vs N2 h => ?_
      obtain ⟨rfl, hF2, hv2⟩ := h
      have hF2' := hF'.tr (hF2.up aWish_tp)
      refine e56_43 (useC (c57 (d := d) (v := waW w ta (rnS w ta l0 sd tld yr 3) (rnS w ta l0 sd tld yr 0)) (hT.of hF2' (fun k j h => by
        cases q : aTp k j with
        | false => rfl
        | true => exact absurd (aTp_cl k j q) (by rw [cl_512 h]; decide))) hb (hy.of hF2' aTp_640 (fun j => rfl)) (hwa.of hF2' (fun j => rfl)) g0 (show yr < 101 by omega) (by rw [(hF2 576 2 rfl).1, (hF 576 2 rfl).1]; exact a1) (fun f => wbd_le) hv2) fun vs N3 h => ?_)
      obtain ⟨rfl, hF3, hv3⟩ := h
      have hF3' := hF2'.tr (hF3.up aWish_tp)
      have e576 : ∀ j, j ≠ 8 → N3.1 576 j = M.1 576 j := fun j hj => by
        have hq : aTr 8 8 576 j = false := by
          unfold aTr
          rw [beq_ne hj]
          rfl
        rw [(hF3 576 j rfl).1, (hF2 576 j rfl).1, (hF 576 j hq).1]
      refine e56_48 ?_
      rw [e576 2 (by decide), a1]
      refine useC (upC (c69 (d := d) (v := rnv w ta (rnS w ta l0 sd tld yr) yr) (hy.of hF3' aTp_640 (fun j => rfl)) hyB hv3 (fun f => rnv_3 hb _ _ f) (l := rnS w ta l0 sd tld yr 0) (by omega)) (by omega)) fun vs N4 h => ?_
      obtain ⟨rfl, hF4, hU⟩ := h
      have hF4' := hF3'.tr (hF4.up aPump_tp)
      have e576' : ∀ j, j ≠ 8 → N4.1 576 j = M.1 576 j := fun j hj => by rw [(hF4 576 j rfl).1]; exact e576 j hj
      have e8 : N4.1 576 8 = iz (((if rnS w ta l0 sd tld yr 3 = 1 ∧ rnS w ta l0 sd tld yr 5 = 0 then yr + 1 else rnS w ta l0 sd tld yr 5 : Nat) : Int) - 1) := by rw [(hF4 576 8 rfl).1, (hF3 576 8 rfl).1, (hF2 576 8 rfl).1]; exact h8
      have eh : ∀ f, f < 3 → N4.1 37894 f = iz (rnH w ta l0 sd tld yr f) := fun f hf => by rw [(hF4 37894 f rfl).1, (hF3 37894 f rfl).1, (hF2 37894 f rfl).1, (hF 37894 f rfl).1]; exact hh f hf
      have hmr : (anB (fun f => decide (waW w ta 0 (rnS w ta l0 sd tld yr 0) f < brk w yr (waW w ta (rnS w ta l0 sd tld yr 3) (rnS w ta l0 sd tld yr 0)) (w 12) f)) (w 8)) = rnM w ta (rnS w ta l0 sd tld yr) yr := rfl
      rw [hmr]
      refine e56_60 ?_
      have loop : ∀ m f N5, f + m = w 8 → Fr (fun k _ => Nat.beq k 37894) N4 N5 → (∀ f', f' < 3 → N5.1 37894 f' = iz (rnH w ta l0 sd tld yr f' + if f' < f then gnW w (w 10) (rnv w ta (rnS w ta l0 sd tld yr) yr) (rnS w ta l0 sd tld yr 0) f' else 0)) → WM (d + 3) 56 (fun vs N => vs = [] ∧ Fr aTp M N ∧ TRP w ta l0 sd tld (yr + 1) N) 62 [some (.ref 576), some (.int (nI yr)), some (.int (nI (cond (rnM w ta (rnS w ta l0 sd tld yr) yr) 1 0))), some (.int (nI f))] [] N5 := by
        intro m
        induction m with
        | zero =>
          intro f N5 hf hF5 h5
          have hf : f = w 8 := by omega
          subst hf
          have hF5' : Fr aTp M N5 := hF4'.tr (hF5.up fun k j q => by
            unfold aTp
            rw [q]
            simp)
          have hT5 := hT.of hF5' (fun k j h => by
            cases q : aTp k j with
            | false => rfl
            | true => exact absurd (aTp_cl k j q) (by rw [cl_512 h]; decide))
          have f576 : ∀ j, j ≠ 8 → N5.1 576 j = M.1 576 j := fun j hj => by rw [(hF5 576 j rfl).1]; exact e576' j hj
          refine go_in (e56_62 ?_)
          rw [(hF5' 640 2 rfl).1, hy.1.2.2.1]
          have hlk : lkd (kW w) (lw (rnv w ta (rnS w ta l0 sd tld yr) yr) (rnS w ta l0 sd tld yr 0 - w (32 + 5 * w 10 + 1)) (rnS w ta l0 sd tld yr 0) (w 8)) ≤ 1 := (lkd_le hyB.1.2.2.1).2
          refine br_t (nI_le (Nat.le_refl _) (show w 8 < 2147483648 by omega)) (go_in (e56_100 (useC (upC (c58 (d := d) hT5 hb (a := rnS w ta l0 sd tld yr 1) (c := rnS w ta l0 sd tld yr 2) g1 hlk (by rw [f576 9 (by decide)]; exact c3) (by rw [f576 10 (by decide)]; exact c4) (by rw [(hF5 640 14 rfl).1]; exact hU.2.2)) (by omega)) fun vs N6 h => ?_)))
          obtain ⟨rfl, hF6, k9, k10⟩ := h
          have hF6' := hF5'.tr (hF6.up aTr_tp)
          have hT6 := hT.of hF6' (fun k j h => by
            cases q : aTp k j with
            | false => rfl
            | true => exact absurd (aTp_cl k j q) (by rw [cl_512 h]; decide))
          refine e56_104 ?_
          have elow : N6.1 640 13 = nI (lowS (yW w (w 10)) (kW w) (rnv w ta (rnS w ta l0 sd tld yr) yr) (rnS w ta l0 sd tld yr 0)) := by rw [(hF6 640 13 rfl).1, (hF5 640 13 rfl).1]; exact hU.2.1
          rw [elow]
          refine useC (upC (c59 (d := d) hT6 hb (hy.of hF6' aTp_640 (fun j => rfl)) (sd := sd) (tld := tld) (show yr < 101 by omega) (by rw [(hF6 576 4 rfl).1, f576 4 (by decide)]; exact a3) (fun ht => by rw [(hF6 576 3 rfl).1, f576 3 (by decide)]; exact a2 ht)) (by omega)) fun vs N7 h => ?_
          obtain ⟨rfl, hF7, k3⟩ := h
          have hF7' := hF6'.tr (hF7.up aTr_tp)
          have hlow7 : lowS (yW w (w 10)) (kW w) (rnv w ta (rnS w ta l0 sd tld yr) yr) (rnS w ta l0 sd tld yr 0) ≤ 7 := Nat.le_trans lowS_le (by omega)
          have hrn := rnN_3 (sd := sd) (tld := tld) hb yr
          refine e56_121 (useC (upC (c72 (d := d) (hy.of hF7' aTp_640 (fun j => rfl)) hyB (a := lowS (yW w (w 10)) (kW w) (rnv w ta (rnS w ta l0 sd tld yr) yr) (rnS w ta l0 sd tld yr 0)) (r := rnN w sd tld yr) (by omega) (by omega)) (by omega)) fun vs N8 h => ?_)
          obtain ⟨rfl, h⟩ := h
          have h := h.symm
          subst h
          have hL : min (yW w (w 10) 0) (lowS (yW w (w 10)) (kW w) (rnv w ta (rnS w ta l0 sd tld yr) yr) (rnS w ta l0 sd tld yr 0) + rnN w sd tld yr) = rnL w ta sd tld (rnS w ta l0 sd tld yr) yr := rfl
          rw [hL]
          refine e56_124 ?_
          have s2 : (sI N7 576 2 (nI (rnL w ta sd tld (rnS w ta l0 sd tld yr) yr))).1 576 2 = nI (rnL w ta sd tld (rnS w ta l0 sd tld yr) yr) := by rw [sI_v, if_pos ⟨rfl, rfl⟩]
          have s7 : (sI N7 576 2 (nI (rnL w ta sd tld (rnS w ta l0 sd tld yr) yr))).1 576 7 = iz ((rnS w ta l0 sd tld yr 4 : Int) - 1) := by rw [sI_v, if_neg (by omega), (hF7 576 7 rfl).1, (hF6 576 7 rfl).1, f576 7 (by decide)]; exact c1
          have hLle : rnL w ta sd tld (rnS w ta l0 sd tld yr) yr ≤ 7 := by
            have : rnL w ta sd tld (rnS w ta l0 sd tld yr) yr ≤ w 0 := Nat.min_le_left _ _
            omega
          have l0q : nI (rnL w ta sd tld (rnS w ta l0 sd tld yr) yr) = 0 ↔ rnL w ta sd tld (rnS w ta l0 sd tld yr) yr = 0 := by
            rw [zero_nI, iz_n, iz_n, iz_eq (i32_n (by omega)) (i32_n (by omega))]
            omega
          have s7q : iz ((rnS w ta l0 sd tld yr 4 : Int) - 1) = -(nI 1) ↔ rnS w ta l0 sd tld yr 4 = 0 := by
            rw [nI_neg1, iz_eq ⟨by omega, by omega⟩ ⟨by omega, by omega⟩]
            omega
          rw [s2, s7, l0q, s7q]
          have hF8 : Fr aTp M (sI N7 576 2 (nI (rnL w ta sd tld (rnS w ta l0 sd tld yr) yr))) := hF7'.sI rfl
          -- the end
          have fin : ∀ (o1 o3 : Option Value) N9, Fr (aTr 7 7) (sI N7 576 2 (nI (rnL w ta sd tld (rnS w ta l0 sd tld yr) yr))) N9 → N9.1 576 7 = iz (((if rnL w ta sd tld (rnS w ta l0 sd tld yr) yr = 0 ∧ rnS w ta l0 sd tld yr 4 = 0 then yr + 1 else rnS w ta l0 sd tld yr 4 : Nat) : Int) - 1) → WM (d + 3) 56 (fun vs N => vs = [] ∧ Fr aTp M N ∧ TRP w ta l0 sd tld (yr + 1) N) 147 [some (.ref 576), o1, some (.int (nI (cond (rnM w ta (rnS w ta l0 sd tld yr) yr) 1 0))), o3] [] N9 := by
            intro o1 o3 N9 hF9 h97
            have t576 : ∀ j, j ≠ 2 → j ≠ 3 → j ≠ 7 → j ≠ 8 → j ≠ 9 → j ≠ 10 → N9.1 576 j = M.1 576 j := fun j h2 h3 h7 h8 h9 h10 => by
              have q7 : aTr 7 7 576 j = false := by unfold aTr; rw [beq_ne h7]; rfl
              have q3 : aTr 3 3 576 j = false := by unfold aTr; rw [beq_ne h3]; rfl
              have q9 : aTr 9 10 576 j = false := by unfold aTr; rw [beq_ne h9, beq_ne h10]; rfl
              rw [(hF9 576 j q7).1, sI_v, if_neg (by omega), (hF7 576 j q3).1, (hF6 576 j q9).1]
              exact f576 j h8
            have hbr : N9.1 576 5 ||| nI (cond (rnM w ta (rnS w ta l0 sd tld yr) yr) 1 0) = nI (if rnS w ta l0 sd tld yr 3 = 1 ∨ rnM w ta (rnS w ta l0 sd tld yr) yr = true then 1 else 0) := by
              rw [t576 5 (by decide) (by decide) (by decide) (by decide) (by decide) (by decide), a4]
              have h01 : rnS w ta l0 sd tld yr 3 = 0 ∨ rnS w ta l0 sd tld yr 3 = 1 := by omega
              rcases h01 with h | h <;> rw [h] <;> cases rnM w ta (rnS w ta l0 sd tld yr) yr <;> decide
            refine go_in (e56_147 ?_)
            rw [hbr]
            refine ⟨by split; exact Or.inr rfl; exact Or.inl rfl, rfl, rfl, (hF8.tr (hF9.up aTr_tp)).sI rfl, ⟨?_, ?_, ?_, ?_⟩, ?_, ?_, ?_, ?_, ?_⟩
            · rw [sI_v, if_neg (by omega), (hF9 576 2 rfl).1, s2]
              rfl
            · intro ht
              rw [sI_v, if_neg (by omega), (hF9 576 3 rfl).1, sI_v, if_neg (by omega)]
              exact k3 ht
            · rw [sI_v, if_neg (by omega), t576 4 (by decide) (by decide) (by decide) (by decide) (by decide) (by decide)]
              exact a3
            · rw [sI_v, if_pos ⟨rfl, rfl⟩]
              rfl
            · intro f hf
              rw [sI_v, if_neg (by omega), (hF9 37894 f rfl).1, sI_v, if_neg (by omega), (hF7 37894 f rfl).1, (hF6 37894 f rfl).1, h5 f hf, hH1 f]
            · rw [sI_v, if_neg (by omega), h97]
              rfl
            · rw [sI_v, if_neg (by omega), (hF9 576 8 rfl).1, sI_v, if_neg (by omega), (hF7 576 8 rfl).1, (hF6 576 8 rfl).1, (hF5 576 8 rfl).1, e8]
              rfl
            · rw [sI_v, if_neg (by omega), (hF9 576 9 rfl).1, sI_v, if_neg (by omega), (hF7 576 9 rfl).1, k9]
              rfl
            · rw [sI_v, if_neg (by omega), (hF9 576 10 rfl).1, sI_v, if_neg (by omega), (hF7 576 10 rfl).1, k10]
              rfl
          refine ⟨fun e => fin _ _ _ Fr.rf (by rw [s7, if_neg (fun q => e q.1)]), fun e => ⟨fun e2 => fin _ _ _ Fr.rf (by rw [s7, if_neg (fun q => e2 q.2)]), fun e2 => fin _ _ _ (Fr.rf.sI rfl) ?_⟩⟩
          rw [sI_v, if_pos ⟨rfl, rfl⟩, if_pos ⟨e, e2⟩, iz_n]
          congr 1
          omega
        | succ m ih =>
          intro f N5 hf hF5 h5
          have hf8 : f < w 8 := by omega
          have hF5' : Fr aTp M N5 := hF4'.tr (hF5.up fun k j q => by
            unfold aTp
            rw [q]
            simp)
          refine go_in (e56_62 ?_)
          rw [(hF5' 640 2 rfl).1, hy.1.2.2.1]
          refine br_f (nI_ge (show f < w 8 from hf8) (show w 8 < 2147483648 by omega)) ⟨nI_in2 (by omega) (by decide), ?_⟩
          have e2 : N5.1 576 2 = nI (rnS w ta l0 sd tld yr 0) := by rw [(hF5 576 2 rfl).1, e576' 2 (by decide)]; exact a1
          have hg3 : gt (rnv w ta (rnS w ta l0 sd tld yr) yr) (rnS w ta l0 sd tld yr 0 - yW w (w 10) 3) f ≤ 3 := Nat.le_trans gt_le (rnv_3 hb _ _ f)
          rw [nI_c (by omega), h5 f (by omega), if_neg (Nat.lt_irrefl f), e2]
          refine useC (upC (c70 (d := d) (f := f) (l := rnS w ta l0 sd tld yr 0) (n := gt (rnv w ta (rnS w ta l0 sd tld yr) yr) (rnS w ta l0 sd tld yr 0 - yW w (w 10) 3) f) hyB (hfo.of hF5' (fun j => rfl)) hf8 g0 (by omega) (by rw [(hF5 41996 f rfl).1]; exact hU.1 f hf8)) (by omega)) fun vs N6 h => ?_
          obtain ⟨rfl, h⟩ := h
          have h := h.symm
          subst h
          refine e56_92 ⟨nI_in2 (by omega) (by decide), ?_⟩
          rw [nI_c (by omega), iz_add, nI_s]
          refine ih (f + 1) _ (by omega) (hF5.sI rfl) fun f' hf' => ?_
          rw [sI_v]
          by_cases e : f' = f
          · subst e
            rw [if_pos ⟨rfl, rfl⟩, if_pos (by omega), Int.add_zero]
            rfl
          · rw [if_neg (fun q => e q.2), h5 f' hf']
            by_cases e3 : f' < f
            · rw [if_pos e3, if_pos (show f' < f + 1 by omega)]
            · rw [if_neg e3, if_neg (show ¬ f' < f + 1 by omega)]
      have t := loop (w 8) 0 N4 (by omega) Fr.rf (fun f' hf' => by rw [if_neg (Nat.not_lt_zero _), Int.add_zero]; exact eh f' hf')
      exact t
    refine go_in (e56_20 ?_)
    rw [(hF 576 5 rfl).1, a4, (hF 576 2 rfl).1, a1, hb01]
    refine ⟨fun e => go_in (e56_39 ?_), fun e => ?_⟩
    · have h0 : rnS w ta l0 sd tld yr 3 = 0 := by omega
      rw [h0] at P2
      exact P2
    · have h0 : rnS w ta l0 sd tld yr 3 = 1 := by omega
      rw [h0] at P2
      exact P2
  rw [hb01, c2]
  have h5q : iz ((rnS w ta l0 sd tld yr 5 : Int) - 1) = -(nI 1) ↔ rnS w ta l0 sd tld yr 5 = 0 := by
    rw [nI_neg1, iz_eq ⟨by omega, by omega⟩ ⟨by omega, by omega⟩]
    omega
  rw [h5q]
  refine ⟨fun e => P1 M Fr.rf (by rw [if_neg (fun q => e q.1)]; exact c2), fun e => ⟨fun e2 => P1 M Fr.rf (by rw [if_neg (fun q => e2 q.2)]; exact c2), fun e2 => P1 _ (Fr.rf.sI rfl) ?_⟩⟩
  rw [sI_v, if_pos ⟨rfl, rfl⟩, if_pos ⟨by omega, e2⟩, iz_n]
  congr 1
  omega
end TY
