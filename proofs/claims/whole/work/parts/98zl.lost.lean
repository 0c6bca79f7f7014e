/-! What is lost by not being one, both sides. -/
section LO
variable {d : Nat} {M : Mm} {w : Nat → Nat} {ta : Nat → Nat → Nat → Nat}
theorem c107 (hT : TR 512 w ta M) (hb : WB w) {l : Nat} (hl : l ≤ w 0) : SC (d + 8) 107 [.ref 704, .int (nI l)] M (fun vs N => vs = [.long (lz (lsW w ta l))] ∧ Fr aCl M N) := by
  obtain ⟨w0, w8, w9⟩ := wb_w hb
  have w10 : w 10 < w 9 := hb.2.2.2.1.2.2.1
  have w67 := hb.2.2.1
  have hyB := yB_of hb w10
  refine sC (by decide) rfl (go_in (e107_0 (Or.inl ?_)))
  rw [iz_n l]
  refine useC (upC (c118 (d := d) hT hb ⟨by omega, by omega⟩ ⟨by omega, by omega⟩) (by omega)) fun vs N h => ?_
  obtain ⟨rfl, h⟩ := h
  have h := h.symm
  subst h
  rw [iz_nn]
  refine e107_5 (useC (upC (c61 (d := d) hT hb) (by omega)) fun vs N1 h => ?_)
  obtain ⟨rfl, hF1, hY1⟩ := h
  refine e107_16 (useC (upC (c0_0 (d := d) hY1.1 hyB hY1.2.2.2 (fun b l f => wbd_le) hY1.2.1 (b := 0) (by omega)) (by omega)) fun vs N2 h => ?_)
  obtain ⟨rfl, hF2, hlo, hpa, C, B, hfl, hC⟩ := h
  have hy2 := hY1.1.of hF2 aFo_640_0 (fun j => rfl)
  refine e107_29 ?_
  rw [hy2.2.1.1, hy2.2.1.2.1]
  refine useC (upC (c3_0 (d := d) hy2 hyB hC (p := w 6) (q := w 7) (by omega) (by omega)) (by omega)) fun vs N3 h => ?_
  obtain ⟨rfl, hF3, hS⟩ := h
  have hy3 := hy2.of hF3 (by decide) (fun j => rfl)
  have hlo3 : LOC 0 (yW w (w 10)) (loY (yW w (w 10)) (kW w) (waW w ta 0)) N3 := fun l hl => by rw [(hF3 (1025 + 64 * 0) l rfl).1]; exact hlo l hl
  have hC3 : COE 0 (yW w (w 10)) C N3 := fun m hm => by rw [(hF3 (1027 + 64 * 0) m rfl).2.1]; exact hC m hm
  have hpa3 : ∀ f, f < w 8 → PAY 0 f (yW w (w 10)) (paY (yW w (w 10)) (foW w (w 10) (cstW w)) (waW w ta 0) f) N3 := fun f hf l hl => by rw [(hF3 (1026 + 64 * 0) _ rfl).1]; exact hpa f hf l hl
  have hF13 : Fr aCl M N3 := ((hF1.up aYr_cl).tr (hF2.up (aFo_cl (by decide)))).tr (hF3.up (aSe_cl (by decide)))
  refine e107_47 ?_
  have loop : ∀ k n (o4 : Option Value) N, n + k = w 8 → Fr aCl M N → YR (yW w (w 10)) (kW w) N → LOC 0 (yW w (w 10)) (loY (yW w (w 10)) (kW w) (waW w ta 0)) N → COE 0 (yW w (w 10)) C N → (∀ f, f < w 8 → PAY 0 f (yW w (w 10)) (paY (yW w (w 10)) (foW w (w 10) (cstW w)) (waW w ta 0) f) N) → SET 0 (yW w (w 10)) C (w 6) (w 7) N → WM (d + 7) 107 (fun vs N => vs = [.long (lz (lsW w ta l))] ∧ Fr aCl M N) 52 [some (.ref 704), some (.int (nI l)), some (.ref 0), some (.long (lz (shR w ta n l))), o4, some (.int (nI n))] [] N := by
    intro k
    induction k with
    | zero =>
      intro n o4 N hn hF hy hlo hC hpa hS
      have hn : n = w 8 := by omega
      subst hn
      refine go_in (e107_52 ?_)
      rw [hy.1.2.2.1]
      refine br_t (nI_le (Nat.le_refl _) (show w 8 < 2147483648 by omega)) (go_in (e107_91 (useC (c124 (d := d) (ta := ta) (hT.of hF (fun k j h => cl_512 h)) hb) fun vs N4 h => ?_)))
      obtain ⟨rfl, hF4, hE, -, -, h9⟩ := h
      have hu := UG_bd (ta := ta) (fm := -1) hb (by omega) (FG_lt (ta := ta) hb) hl
      have hd := DG_bd (ta := ta) (fm := -1) hb (FG w ta (-1))
      have hsh := shR_bd hb (ta := ta) hl
      have hdt := dtW_bd hb (r := w 10) (V := waW w ta 0)
      have e1 : N4.2.1 2 9 = lz (DG w ta (-1) (FG w ta (-1))) := hE.1
      have e2 : N4.2.1 1160 l = lz (UG w ta (-1) (FG w ta (-1)) l) := hE.2.2.1 l hl
      have e3 : N4.2.1 0 9 = lz (dtW w (w 10) (waW w ta 0)) := by rw [h9, hS.2.2, hb_dtW hfl]
      refine e107_95 ⟨nI_in2 (by omega) (by decide), ?_⟩
      rw [nI_c (by omega), e2, e1, e3, lz_n 4, lz_mul, lz_mul]
      refine useC (upC (c128 (d := d) (a := UG w ta (-1) (FG w ta (-1)) l) (b := 4 * DG w ta (-1) (FG w ta (-1))) (c := shR w ta (w 8) l) (e := 4 * dtW w (w 10) (waW w ta 0)) (by omega) (by omega) (i64_of hu (by decide)) ⟨by omega, by omega⟩ (i64_of hsh (by decide)) ⟨by omega, by omega⟩) (by omega)) fun vs N5 h => ?_
      obtain ⟨rfl, rfl⟩ := h
      exact e107_133 ⟨rfl, rfl, hF.tr hF4⟩
    | succ k ih =>
      intro n o4 N hn hF hy hlo hC hpa hS
      refine go_in (e107_52 ?_)
      rw [hy.1.2.2.1]
      have hn8 : n < w 8 := by omega
      refine br_f (nI_ge (show n < w 8 from hn8) (show w 8 < 2147483648 by omega)) (useC (upC (c4_0 (d := d) hy hyB hlo loY_le hC hS (show n < 3 by omega) (hpa n hn8) (fun l hl => bd_i32 (bd_le (gnW_bd (v := waW w ta 0 l) hb w10 hn8 (show l ≤ 7 by have : yW w (w 10) 0 = w 0 := rfl; omega) (fun f => wbd_le)) (by decide)))) (by omega)) fun vs N4 h => ?_)
      obtain ⟨rfl, hF4, hu⟩ := h
      have e1 : N4.2.1 1032 (n * 8 + l) = lz (uWo w (w 10) (waW w ta 0) n l) := by
        have e1' : N4.2.1 (1032 + 64 * 0) (n * 8 + l) = lz (uWo w (w 10) (waW w ta 0) n l) := by
          rw [hu l (show l < w 0 + 1 by omega), wth_uWo hb w10 hfl (by omega)]
        exact e1'
      refine e107_70 ?_
      rw [nI_mul, nI_add, nI_c (by omega), e1, lz_add, ← shR_s hb hl, nI_s]
      refine ⟨nI_in2 (by omega) (by decide), ?_⟩
      exact ih (n + 1) _ N4 (by omega) (hF.tr (hF4.up (aSof_cl (by decide)))) (hy.of hF4 (fun j _ => rfl) (fun j => rfl)) (fun l hl => by rw [(hF4 (1025 + 64 * 0) l rfl).1]; exact hlo l hl) (fun m hm => by rw [(hF4 (1027 + 64 * 0) m rfl).2.1]; exact hC m hm) (fun f hf l hl => by rw [(hF4 (1026 + 64 * 0) _ rfl).1]; exact hpa f hf l hl) ⟨by rw [(hF4 0 10 rfl).2.1]; exact hS.1, by rw [(hF4 0 11 rfl).2.1]; exact hS.2.1, by rw [(hF4 0 9 rfl).2.1]; exact hS.2.2⟩
  have t := loop (w 8) 0 none N3 (by omega) hF13 hy3 hlo3 hC3 hpa3 hS
  rw [shR_0 hb hl] at t
  exact t
theorem c202 (hw : MR w M) (hb : WB w) (hD : DRel w ta M) (hp : NP M) {l : Nat} (hl : l ≤ w 0) : SC (d + 10) 202 [.ref 768, .int (nI l)] M (fun vs N => vs = [.long (lz (lsW w ta l))] ∧ Fr aRe M N ∧ N.1 768 0 = nI 0) := by
  obtain ⟨w0, w8, w9⟩ := wb_w hb
  have w10 : w 10 < w 9 := hb.2.2.2.1.2.2.1
  refine sC (by decide) rfl (go_in (e202_0 ?_))
  obtain ⟨M1, hM1⟩ : ∃ M1, M1 = sI M 768 0 (nI 0) := ⟨_, rfl⟩
  have hF1 : Fr aRe M M1 := by rw [hM1]; exact Fr.rf.sI rfl
  have e10 : M1.1 768 0 = nI 0 := by rw [hM1, sI_v, if_pos ⟨rfl, rfl⟩]
  rw [← hM1, iz_n l]
  have hw1 := hw.of hF1 (fun j _ => rfl)
  refine useC (upC (c137 (d := d) hw1 hb (a := (l : Int)) (i32_n (by omega))) (by omega)) fun vs N h => ?_
  obtain ⟨rfl, rfl⟩ := h
  rw [if_pos (by omega), ← iz_n l]
  refine e202_11 (useC (upC (c130f (d := d)) (by omega)) fun vs N h => ?_)
  obtain ⟨rfl, rfl⟩ := h
  refine e202_15 ⟨fun _ => go_in (e202_20 ?_), fun e => absurd rfl e⟩
  rw [nI_neg1]
  refine useC (c198 (d := d) hw1 hb (hD.of hF1 (fun j => rfl)) (hp.of hF1 rfl rfl) (fm := -1) (by omega) (by omega)) fun vs N2 h => ?_
  obtain ⟨rfl, hF2, hB, -⟩ := h
  have hF12 := hF1.tr (hF2.up aBt_re)
  have hu := UG_bd (ta := ta) (fm := -1) hb (by omega) (FG_lt (ta := ta) hb) hl
  have hd := DG_bd (ta := ta) (fm := -1) hb (FG w ta (-1))
  have hsh := shR_bd hb (ta := ta) hl
  have hdt := dtW_bd hb (r := w 10) (V := waW w ta 0)
  refine e202_25 ⟨nI_in2 (by omega) (by decide), ?_⟩
  rw [nI_c (by omega), hB.2 l hl, hB.1, lz_n 4, lz_mul]
  refine useC (upC (c183 (d := d) (a := UG w ta (-1) (FG w ta (-1)) l) (bd_le hu (by decide)) (b := 4 * DG w ta (-1) (FG w ta (-1))) ⟨by omega, by omega⟩ (by omega)) (by omega)) fun vs N3 h => ?_
  obtain ⟨rfl, rfl⟩ := h
  obtain ⟨N3, hN3⟩ : ∃ N3, N3 = sJ (sJ N2 768 22 (lz (frc (UG w ta (-1) (FG w ta (-1)) l) (4 * DG w ta (-1) (FG w ta (-1))) false))) 768 23 (lz (frc (UG w ta (-1) (FG w ta (-1)) l) (4 * DG w ta (-1) (FG w ta (-1))) true)) := ⟨_, rfl⟩
  have hF3 : Fr aRe M N3 := by rw [hN3]; exact (hF12.sJ rfl).sJ rfl
  have e30 : N3.1 768 0 = nI 0 := by rw [hN3]; show N2.1 768 0 = nI 0; rw [(hF2 768 0 rfl).1]; exact e10
  have e22 : N3.2.1 768 22 = lz (frc (UG w ta (-1) (FG w ta (-1)) l) (4 * DG w ta (-1) (FG w ta (-1))) false) := by rw [hN3, sJ_v, if_neg (by omega), sJ_v, if_pos ⟨rfl, rfl⟩]
  have e23 : N3.2.1 768 23 = lz (frc (UG w ta (-1) (FG w ta (-1)) l) (4 * DG w ta (-1) (FG w ta (-1))) true) := by rw [hN3, sJ_v, if_pos ⟨rfl, rfl⟩]
  rw [← hN3]
  refine e202_43 ?_
  rw [e22, e23]
  have loop : ∀ k n N (o7 o8 o9 : Option Value), n + k = w 0 + 1 → Fr aRe M N → N.1 768 0 = nI 0 → (∀ i, i < n → N.1 50202 i = nI (loV w (w 10) (waW w ta 0) i) ∧ N.1 50203 i = iz (gaW w (w 10) (waW w ta 0 i) i (w 8))) → WM (d + 9) 202 (fun vs N => vs = [.long (lz (lsW w ta l))] ∧ Fr aRe M N ∧ N.1 768 0 = nI 0) 57 [some (.ref 768), some (.int (nI l)), some (.long (lz (frc (UG w ta (-1) (FG w ta (-1)) l) (4 * DG w ta (-1) (FG w ta (-1))) false))), none, some (.long (lz (frc (UG w ta (-1) (FG w ta (-1)) l) (4 * DG w ta (-1) (FG w ta (-1))) true))), none, some (.int (nI n)), o7, o8, o9] [] N := by
    intro k
    induction k with
    | zero =>
      intro n N o7 o8 o9 hn hF h0 hA
      have hn : n = w 0 + 1 := by omega
      subst hn
      have hw' := hw.of hF (fun j _ => rfl)
      refine go_in (e202_57 (useC (upC (c134 (d := d) hw') (by omega)) fun vs N2 h => ?_))
      obtain ⟨rfl, rfl⟩ := h
      refine e202_63 (br_t (nI_lt (by omega) (by omega)) (go_in (e202_101 (useC (upC (c186 (d := d) hw' hb (lo := loV w (w 10) (waW w ta 0)) (fun i hi => (hA i hi).1) loV_le (b := fun i => gaW w (w 10) (waW w ta 0 i) i (w 8)) (fun i hi => ⟨(hA i hi).2, bd_i32 (bd_le (gaW_bd hb w10 (by omega) (fun f => wbd_le) (w 8) (Nat.le_refl _)) (by omega))⟩)) (by omega)) fun vs N3 h => ?_))))
      obtain ⟨rfl, hF3, hdet, hcr⟩ := h
      have hF3' : Fr aRe M N3 := hF.tr (hF3.up fun k j q => aBt_re k j (aSv_bt k j q))
      have hdet' : N3.2.1 768 29 = lz (dtW w (w 10) (waW w ta 0)) := hdet
      have hcr' : N3.2.1 50204 l = lz (shR w ta (w 8) l) := hcr l (by omega)
      refine e202_105 ⟨nI_in2 (by omega) (by decide), ?_⟩
      rw [nI_c (by omega), hcr', hdet', lz_n 4, lz_mul]
      refine useC (upC (c183 (d := d) (a := shR w ta (w 8) l) (bd_le hsh (by decide)) (b := 4 * dtW w (w 10) (waW w ta 0)) ⟨by omega, by omega⟩ (by omega)) (by omega)) fun vs N4 h => ?_
      obtain ⟨rfl, rfl⟩ := h
      obtain ⟨N4, hN4⟩ : ∃ N4, N4 = sJ (sJ N3 768 22 (lz (frc (shR w ta (w 8) l) (4 * dtW w (w 10) (waW w ta 0)) false))) 768 23 (lz (frc (shR w ta (w 8) l) (4 * dtW w (w 10) (waW w ta 0)) true)) := ⟨_, rfl⟩
      have hF4 : Fr aRe M N4 := by rw [hN4]; exact (hF3'.sJ rfl).sJ rfl
      have e40 : N4.1 768 0 = nI 0 := by rw [hN4]; show N3.1 768 0 = nI 0; rw [(hF3 768 0 rfl).1]; exact h0
      have f22 : N4.2.1 768 22 = lz (frc (shR w ta (w 8) l) (4 * dtW w (w 10) (waW w ta 0)) false) := by rw [hN4, sJ_v, if_neg (by omega), sJ_v, if_pos ⟨rfl, rfl⟩]
      have f23 : N4.2.1 768 23 = lz (frc (shR w ta (w 8) l) (4 * dtW w (w 10) (waW w ta 0)) true) := by rw [hN4, sJ_v, if_pos ⟨rfl, rfl⟩]
      rw [← hN4]
      have p1 := frc_pos (a := UG w ta (-1) (FG w ta (-1)) l) (b := 4 * DG w ta (-1) (FG w ta (-1))) (by omega)
      have p2 := frc_pos (a := shR w ta (w 8) l) (b := 4 * dtW w (w 10) (waW w ta 0)) (by omega)
      have q1 := i64_of (frc_le (b := 4 * DG w ta (-1) (FG w ta (-1))) (by omega) hu) (by decide)
      have q2 := i64_of (frc_le (b := 4 * dtW w (w 10) (waW w ta 0)) (by omega) hsh) (by decide)
      have hls : lsW w ta l = lsV (frc (UG w ta (-1) (FG w ta (-1)) l) (4 * DG w ta (-1) (FG w ta (-1))) false) (frc (UG w ta (-1) (FG w ta (-1)) l) (4 * DG w ta (-1) (FG w ta (-1))) true) (frc (shR w ta (w 8) l) (4 * dtW w (w 10) (waW w ta 0)) false) (frc (shR w ta (w 8) l) (4 * dtW w (w 10) (waW w ta 0)) true) := (lsV_frc (by omega) (by omega)).symm
      rw [hls]
      generalize frc (UG w ta (-1) (FG w ta (-1)) l) (4 * DG w ta (-1) (FG w ta (-1))) false = a at q1 ⊢
      generalize frc (UG w ta (-1) (FG w ta (-1)) l) (4 * DG w ta (-1) (FG w ta (-1))) true = b at p1 ⊢
      generalize frc (shR w ta (w 8) l) (4 * dtW w (w 10) (waW w ta 0)) false = c at q2 f22 ⊢
      generalize frc (shR w ta (w 8) l) (4 * dtW w (w 10) (waW w ta 0)) true = e at p2 f23 ⊢
      have ib : i64 b := ⟨by omega, by omega⟩
      have ie : i64 e := ⟨by omega, by omega⟩
      refine e202_123 (useC (upC (c226 (d := d) q1 ib p1.1) (by omega)) fun vs N5 h => ?_)
      obtain ⟨rfl, rfl⟩ := h
      refine e202_129 ?_
      rw [f22, f23]
      refine useC (upC (c226 (d := d) q2 ie p2.1) (by omega)) fun vs N6 h => ?_
      obtain ⟨rfl, rfl⟩ := h
      refine e202_142 ?_
      rw [f22, f23, lz_mul, lz_mul, lz_sub, lz_sub, lz_sub, rm_eq, rm_eq]
      refine useC (upC (c182 (d := d) (a := a % b) (b := b) (c := c % e) (e := e) p1.1 p2.1 (md_64 p1.1 ib) ib (md_64 p2.1 ie) ie) (by omega)) fun vs N7 h => ?_
      obtain ⟨rfl, rfl⟩ := h
      have hcm : cmr 1 (a % b) b (c % e) e = if c % e * b < a % b * e then 1 else if a % b * e < c % e * b then -1 else 0 := rfl
      have h3 : i32 (cmr 1 (a % b) b (c % e) e) := by
        rw [hcm]
        split
        · exact ⟨by decide, by decide⟩
        · split <;> exact ⟨by decide, by decide⟩
      refine e202_177 ⟨fun q => go_in (e202_184 (go_in (e202_185 ⟨rfl, ?_, hF4, e40⟩))), fun q => go_in (e202_185 ⟨rfl, ?_, hF4, e40⟩)⟩
      · rw [iz_0le h3, hcm] at q
        have hn : ¬ a % b * e < c % e * b := fun h => by
          rw [if_neg (by omega), if_pos h] at q
          exact absurd q (by decide)
        rw [lz_0, lz_sub]
        unfold lsV
        rw [if_neg hn]
      · rw [iz_0le h3, hcm] at q
        have hn : a % b * e < c % e * b := by
          by_cases h : a % b * e < c % e * b
          · exact h
          · exfalso
            apply q
            rw [if_neg h]
            split <;> decide
        rw [show lN 1 = lz 1 from rfl, lz_sub]
        unfold lsV
        rw [if_pos hn]
    | succ k ih =>
      intro n N o7 o8 o9 hn hF h0 hA
      have hw' := hw.of hF (fun j _ => rfl)
      refine go_in (e202_57 (useC (upC (c134 (d := d) hw') (by omega)) fun vs N2 h => ?_))
      obtain ⟨rfl, rfl⟩ := h
      refine e202_63 (br_f (nI_nlt (by omega) (by omega)) ?_)
      obtain ⟨pd, hpn⟩ := NP.pn (w := w) (hp.of hF rfl rfl)
      refine useC (upC (c176 (d := d) hw' hb (hD.of hF (fun j => rfl)) hpn (l := n) (b := 0) (by omega) (by decide)) (by omega)) fun vs N3 h => ?_
      obtain ⟨rfl, hF3, -, y1, y2, y3, y4, y5⟩ := h
      rw [wRf_no] at y3 y4
      refine e202_73 ?_
      rw [nI_c (by omega), y4, sI_v, if_neg (by omega), y3, nI_s]
      refine ⟨nI_in2 (by omega) (by decide), nI_in2 (by omega) (by decide), ?_⟩
      refine ih (n + 1) _ _ _ _ (by omega) (((hF.tr (hF3.up fun k j q => aBD_re k j (aYB_bd k j q))).sI rfl).sI rfl) (by rw [sI_v, if_neg (by omega), sI_v, if_neg (by omega), (hF3 768 0 rfl).1]; exact h0) fun i hi => ?_
      rw [sI_v, if_neg (by omega), sI_v, sI_v]
      by_cases e : i = n
      · subst e
        rw [if_pos ⟨rfl, rfl⟩, if_pos ⟨rfl, rfl⟩]
        refine ⟨?_, rfl⟩
        unfold loV
        rw [if_pos (by omega)]
      · rw [if_neg (fun q => e q.2), if_neg (fun q => e q.2), sI_v, if_neg (by omega), (hF3 50202 i rfl).1, (hF3 50203 i rfl).1]
        exact hA i (by omega)
  exact loop (w 0 + 1) 0 N3 _ _ _ (by omega) hF3 e30 fun i hi => absurd hi (Nat.not_lt_zero _)
end LO
