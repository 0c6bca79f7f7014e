/-! The class's face: gains, next, worth. -/
section FW
variable {d : Nat} {M : Mm} {w : Nat → Nat} {ta : Nat → Nat → Nat → Nat}
theorem t96 (hT : TR 512 w ta M) (hb : WB w) {f l : Int} (h1 : i32 f) (h2 : i32 l) {o3 o4 : Int32} (h : ¬ ((0 ≤ f ∧ f < w 8) ∧ (0 ≤ l ∧ l ≤ w 0))) : ST (d + 3) 96 [.ref 704, .int (iz f), .int (iz l), .int o3, .int o4] M (fun E N => E = 1 ∧ N = M) := by
  refine sT (by decide) (by decide) (by decide +kernel) rfl ?_
  by_cases hf : 0 ≤ f ∧ f < w 8
  · refine go_inE (e96_0 (Or.inl (useC (c117 (d := d) hT hb h1 hf) fun vs N q => ?_)))
    obtain ⟨rfl, rfl⟩ := q
    refine e96_5 (Or.inr ?_)
    show ST (d + 2) 118 _ _ _
    exact useT (t118 hT hb h2 (fun q => h ⟨hf, q⟩)) fun E N q => ⟨by omega, q⟩
  · refine go_inE (e96_0 (Or.inr ?_))
    show ST (d + 2) 117 _ _ _
    exact useT (t117 hT hb h1 hf) fun E N q => ⟨by omega, q⟩
theorem c97 (hT : TR 512 w ta M) (hb : WB w) {f l : Nat} {b : Bool} (hf : f < w 8) (hl : l ≤ w 0) : SC (d + 6) 97 [.ref 704, .int (nI f), .int (nI l), .int (nI (cond b 1 0))] M (fun vs N => vs = [.int (iz (gnW w (w 10) (waW w ta (cond b 1 0) l) l f))] ∧ Fr aCl M N) := by
  obtain ⟨w0, w8, w9⟩ := wb_w hb
  refine sC (by decide) rfl (go_in (e97_0 (Or.inl ?_)))
  rw [iz_n f]
  refine useC (upC (c117 (d := d) hT hb ⟨by omega, by omega⟩ ⟨by omega, by omega⟩) (by omega)) fun vs N h => ?_
  obtain ⟨rfl, rfl⟩ := h
  refine e97_5 (Or.inl ?_)
  rw [iz_n l]
  refine useC (upC (c118 (d := d) hT hb ⟨by omega, by omega⟩ ⟨by omega, by omega⟩) (by omega)) fun vs N h => ?_
  obtain ⟨rfl, rfl⟩ := h
  refine e97_10 ?_
  rw [iz_nn]
  refine useC (c122 hT hb hl) fun vs N2 h => ?_
  obtain ⟨rfl, hF, hY, hv, hp⟩ := h
  rw [iz_nn]
  have hg : gt (waW w ta (cond b 1 0) l) (l - w (32 + 5 * w 10 + 1)) f < 4 := by
    have h1 : gt (waW w ta (cond b 1 0) l) (l - w (32 + 5 * w 10 + 1)) f ≤ waW w ta (cond b 1 0) l f := gt_le
    have h2 : waW w ta (cond b 1 0) l f ≤ 3 := wbd_le
    omega
  have w10 : w 10 < w 9 := hb.2.2.2.1.2.2.1
  refine e97_16 (useC (upC (c70 (d := d) (yB_of hb w10) hY.2.1 (show f < yW w (w 10) 2 from hf) (show l ≤ yW w (w 10) 0 from hl) hg (hp.1 f hf)) (by omega)) fun vs N3 h => ?_)
  obtain ⟨rfl, rfl⟩ := h
  exact e97_25 ⟨rfl, rfl, hF.up aYr_cl⟩
theorem t97 (hT : TR 512 w ta M) (hb : WB w) {f l : Int} (h1 : i32 f) (h2 : i32 l) {o3 : Int32} (h : ¬ ((0 ≤ f ∧ f < w 8) ∧ (0 ≤ l ∧ l ≤ w 0))) : ST (d + 3) 97 [.ref 704, .int (iz f), .int (iz l), .int o3] M (fun E N => E = 1 ∧ N = M) := by
  refine sT (by decide) (by decide) (by decide +kernel) rfl ?_
  by_cases hf : 0 ≤ f ∧ f < w 8
  · refine go_inE (e97_0 (Or.inl (useC (c117 (d := d) hT hb h1 hf) fun vs N q => ?_)))
    obtain ⟨rfl, rfl⟩ := q
    refine e97_5 (Or.inr ?_)
    show ST (d + 2) 118 _ _ _
    exact useT (t118 hT hb h2 (fun q => h ⟨hf, q⟩)) fun E N q => ⟨by omega, q⟩
  · refine go_inE (e97_0 (Or.inr ?_))
    show ST (d + 2) 117 _ _ _
    exact useT (t117 hT hb h1 hf) fun E N q => ⟨by omega, q⟩
theorem c98 (hT : TR 512 w ta M) (hb : WB w) {l to : Nat} {b : Bool} (hl : l ≤ w 0) (ht : to ≤ w 0) : SC (d + 6) 98 [.ref 704, .int (nI l), .int (nI (cond b 1 0)), .int (nI to)] M (fun vs N => vs = [.int (nI (prt (yW w 0) (loV w (w 10) (waW w ta (cond b 1 0)) l) to 4))] ∧ Fr aCl M N) := by
  obtain ⟨w0, w8, w9⟩ := wb_w hb
  have w10 : w 10 < w 9 := hb.2.2.2.1.2.2.1
  refine sC (by decide) rfl (go_in (e98_0 (Or.inl ?_)))
  rw [iz_n l]
  refine useC (upC (c118 (d := d) hT hb ⟨by omega, by omega⟩ ⟨by omega, by omega⟩) (by omega)) fun vs N h => ?_
  obtain ⟨rfl, rfl⟩ := h
  refine e98_5 (Or.inl ?_)
  rw [iz_n to]
  refine useC (upC (c118 (d := d) hT hb ⟨by omega, by omega⟩ ⟨by omega, by omega⟩) (by omega)) fun vs N h => ?_
  obtain ⟨rfl, rfl⟩ := h
  refine e98_10 ?_
  rw [iz_nn]
  refine useC (c122 hT hb hl) fun vs N2 h => ?_
  obtain ⟨rfl, hF, hY, hv, hp⟩ := h
  rw [iz_nn]
  have e1 : lowS (yW w (w 10)) (kW w) (waW w ta (cond b 1 0) l) l = loV w (w 10) (waW w ta (cond b 1 0)) l := by
    unfold loV
    rw [if_pos (by omega)]
  refine e98_16 (useC (upC (c73 (d := d) hY.1 (yB_of hb w10) (low := loV w (w 10) (waW w ta (cond b 1 0)) l) (by rw [← e1]; exact hp.2.1) (loV_le l) (show to ≤ 7 by omega)) (by omega)) fun vs N3 h => ?_)
  obtain ⟨rfl, rfl⟩ := h
  rw [prt_yW w _ _ _ 4 (by omega)]
  exact e98_24 ⟨rfl, rfl, hF.up aYr_cl⟩
theorem t98 (hT : TR 512 w ta M) (hb : WB w) {l to : Int} (h1 : i32 l) (h2 : i32 to) {o2 : Int32} (h : ¬ ((0 ≤ l ∧ l ≤ w 0) ∧ (0 ≤ to ∧ to ≤ w 0))) : ST (d + 3) 98 [.ref 704, .int (iz l), .int o2, .int (iz to)] M (fun E N => E = 1 ∧ N = M) := by
  refine sT (by decide) (by decide) (by decide +kernel) rfl ?_
  by_cases hf : 0 ≤ l ∧ l ≤ w 0
  · refine go_inE (e98_0 (Or.inl (useC (c118 (d := d) hT hb h1 hf) fun vs N q => ?_)))
    obtain ⟨rfl, rfl⟩ := q
    refine e98_5 (Or.inr ?_)
    show ST (d + 2) 118 _ _ _
    exact useT (t118 hT hb h2 (fun q => h ⟨hf, q⟩)) fun E N q => ⟨by omega, q⟩
  · refine go_inE (e98_0 (Or.inr ?_))
    show ST (d + 2) 118 _ _ _
    exact useT (t118 hT hb h1 hf) fun E N q => ⟨by omega, q⟩
theorem t99 (hT : TR 512 w ta M) (hb : WB w) {f l : Int} (h1 : i32 f) (h2 : i32 l) {o3 o4 : Int32} (h : ¬ ((0 ≤ f ∧ f < w 8) ∧ (0 ≤ l ∧ l ≤ w 0))) : ST (d + 3) 99 [.ref 704, .int (iz f), .int (iz l), .int o3, .int o4] M (fun E N => E = 1 ∧ N = M) := by
  refine sT (by decide) (by decide) (by decide +kernel) rfl ?_
  by_cases hf : 0 ≤ f ∧ f < w 8
  · refine go_inE (e99_0 (Or.inl (useC (c117 (d := d) hT hb h1 hf) fun vs N q => ?_)))
    obtain ⟨rfl, rfl⟩ := q
    refine e99_5 (Or.inr ?_)
    show ST (d + 2) 118 _ _ _
    exact useT (t118 hT hb h2 (fun q => h ⟨hf, q⟩)) fun E N q => ⟨by omega, q⟩
  · refine go_inE (e99_0 (Or.inr ?_))
    show ST (d + 2) 117 _ _ _
    exact useT (t117 hT hb h1 hf) fun E N q => ⟨by omega, q⟩
/-- where the year is the class's, a chain's numbers are the reference's -/
theorem wth_uWo (hb : WB w) {r : Nat} (hr : r < w 9) {V : Nat → Nat → Nat} {C : Nat → Int} {B : Nat → Nat → Nat → Int} (h : FLP (Wm (yW w r) (loY (yW w r) (kW w) V)) (yW w r 0 + 1) C B) {f l : Nat} (hl : l < w 0 + 1) : wth (yW w r) (loY (yW w r) (kW w) V) C (paY (yW w r) (foW w r (cstW w)) V f) (w 6) (w 7) l = uWo w r V f l := by
  rw [wth_crm (yB_of hb hr) h _ hb.2.2.1.2.1 hl, RY_RSQ]
  rfl
theorem hb_dtW {r : Nat} {V : Nat → Nat → Nat} {C : Nat → Int} {B : Nat → Nat → Nat → Int} (h : FLP (Wm (yW w r) (loY (yW w r) (kW w) V)) (yW w r 0 + 1) C B) : hb C (w 6) (((w 7 : Nat) : Int) * (yW w r 6 : Int)) (yW w r 0 + 1) = dtW w r V := by
  rw [hb_det h, RY_RSQ]
  rfl
theorem c99_0 (hT : TR 512 w ta M) (hb : WB w) {f l : Nat} {g : Bool} (hf : f < w 8) (hl : l ≤ w 0) : SC (d + 6) 99 [.ref 704, .int (nI f), .int (nI l), .int (nI 0), .int (nI (cond g 1 0))] M (fun vs N => vs = [.long (lz (woF w ta 0 f l g))] ∧ Fr aCl M N) := by
  obtain ⟨w0, w8, w9⟩ := wb_w hb
  have w10 : w 10 < w 9 := hb.2.2.2.1.2.2.1
  have w67 := hb.2.2.1
  have hyB := yB_of hb w10
  refine sC (by decide) rfl (go_in (e99_0 (Or.inl ?_)))
  rw [iz_n f]
  refine useC (upC (c117 (d := d) hT hb ⟨by omega, by omega⟩ ⟨by omega, by omega⟩) (by omega)) fun vs N h => ?_
  obtain ⟨rfl, rfl⟩ := h
  refine e99_5 (Or.inl ?_)
  rw [iz_n l]
  refine useC (upC (c118 (d := d) hT hb ⟨by omega, by omega⟩ ⟨by omega, by omega⟩) (by omega)) fun vs N h => ?_
  obtain ⟨rfl, rfl⟩ := h
  rw [iz_nn, iz_nn]
  refine e99_10 (useC (upC (c61 (d := d) hT hb) (by omega)) fun vs N1 h => ?_)
  obtain ⟨rfl, hF1, hY1⟩ := h
  refine e99_21 ⟨fun _ => go_in (e99_35 (go_in (e99_42_1 ⟨fun _ => go_in (e99_54_1 (go_in (e99_55_1 ?_))), fun e => absurd rfl e⟩))), fun e => absurd rfl e⟩
  refine useC (upC (c0_0 (d := d) hY1.1 hyB hY1.2.2.2 (fun b l f => wbd_le) hY1.2.1 (b := 0) (by omega)) (by omega)) fun vs N2 h => ?_
  obtain ⟨rfl, hF2, hlo, hpa, C, B, hfl, hC⟩ := h
  have hy2 := hY1.1.of hF2 aFo_640_0 (fun j => rfl)
  refine e99_58_1 ?_
  rw [hy2.2.1.1, hy2.2.1.2.1]
  refine useC (upC (c3_0 (d := d) hy2 hyB hC (p := w 6) (q := w 7) (by omega) (by omega)) (by omega)) fun vs N3 h => ?_
  obtain ⟨rfl, hF3, hS⟩ := h
  have hy3 := hy2.of hF3 (by decide) (fun j => rfl)
  have hlo3 : LOC 0 (yW w (w 10)) (loY (yW w (w 10)) (kW w) (waW w ta 0)) N3 := fun l hl => by rw [(hF3 (1025 + 64 * 0) l rfl).1]; exact hlo l hl
  have hC3 : COE 0 (yW w (w 10)) C N3 := fun m hm => by rw [(hF3 (1027 + 64 * 0) m rfl).2.1]; exact hC m hm
  have hpa3 : PAY 0 f (yW w (w 10)) (paY (yW w (w 10)) (foW w (w 10) (cstW w)) (waW w ta 0) f) N3 := fun l hl => by rw [(hF3 (1026 + 64 * 0) _ rfl).1]; exact hpa f hf l hl
  refine e99_77_1 (useC (upC (c4_0 (d := d) hy3 hyB hlo3 loY_le hC3 hS (show f < 3 by omega) hpa3 (fun l hl => bd_i32 (bd_le (gnW_bd (v := waW w ta 0 l) hb w10 hf (show l ≤ 7 by have : yW w (w 10) 0 = w 0 := rfl; omega) (fun f => wbd_le)) (by decide)))) (by omega)) fun vs N4 h => ?_)
  obtain ⟨rfl, hF4, hu⟩ := h
  have e1 : N4.2.1 (1032 + 64 * 0) (f * 8 + l) = lz (uWo w (w 10) (waW w ta 0) f l) := by
    rw [hu l (show l < w 0 + 1 by omega), wth_uWo hb w10 hfl (by omega)]
  have e2 : N4.2.1 0 9 = lz (dtW w (w 10) (waW w ta 0)) := by
    rw [(hF4 0 9 rfl).2.1, hS.2.2, hb_dtW hfl]
  have e1' : N4.2.1 1032 (f * 8 + l) = lz (uWo w (w 10) (waW w ta 0) f l) := e1
  have hu2 := uWo_bd hb w10 (V := waW w ta 0) (fun l f => wbd_le) hf (show l < w 0 + 1 by omega)
  have hd2 := dtW_bd hb (r := w 10) (V := waW w ta 0)
  refine e99_83_1 ?_
  rw [nI_mul, nI_add, nI_c (by omega), e1', e2, lz_n 4, lz_mul]
  refine ⟨nI_in2 (by omega) (by decide), useC (upC (c125 (d := d) (bd_le hu2 (by omega)) (b := 4 * dtW w (w 10) (waW w ta 0)) ⟨by omega, by omega⟩ (by omega)) (by omega)) fun vs N5 h => ?_⟩
  obtain ⟨rfl, rfl⟩ := h
  exact e99_109_1 ⟨rfl, rfl, (((hF1.up aYr_cl).tr (hF2.up (aFo_cl (by omega)))).tr (hF3.up (aSe_cl (by omega)))).tr (hF4.up (aSof_cl (by omega)))⟩
theorem c99_1 (hT : TR 512 w ta M) (hb : WB w) {f l : Nat} {g : Bool} (hf : f < w 8) (hl : l ≤ w 0) : SC (d + 6) 99 [.ref 704, .int (nI f), .int (nI l), .int (nI 1), .int (nI (cond g 1 0))] M (fun vs N => vs = [.long (lz (woF w ta 1 f l g))] ∧ Fr aCl M N) := by
  obtain ⟨w0, w8, w9⟩ := wb_w hb
  have w10 : w 10 < w 9 := hb.2.2.2.1.2.2.1
  have w67 := hb.2.2.1
  have hyB := yB_of hb w10
  refine sC (by decide) rfl (go_in (e99_0 (Or.inl ?_)))
  rw [iz_n f]
  refine useC (upC (c117 (d := d) hT hb ⟨by omega, by omega⟩ ⟨by omega, by omega⟩) (by omega)) fun vs N h => ?_
  obtain ⟨rfl, rfl⟩ := h
  refine e99_5 (Or.inl ?_)
  rw [iz_n l]
  refine useC (upC (c118 (d := d) hT hb ⟨by omega, by omega⟩ ⟨by omega, by omega⟩) (by omega)) fun vs N h => ?_
  obtain ⟨rfl, rfl⟩ := h
  rw [iz_nn, iz_nn]
  refine e99_10 (useC (upC (c61 (d := d) hT hb) (by omega)) fun vs N1 h => ?_)
  obtain ⟨rfl, hF1, hY1⟩ := h
  refine e99_21 ⟨fun e => absurd e (by decide), fun _ => go_in (e99_42 ⟨fun e => absurd e (by decide), fun _ => go_in (e99_55 ?_)⟩)⟩
  refine useC (upC (c0_1 (d := d) hY1.1 hyB hY1.2.2.2 (fun b l f => wbd_le) hY1.2.1 (b := 1) (by omega)) (by omega)) fun vs N2 h => ?_
  obtain ⟨rfl, hF2, hlo, hpa, C, B, hfl, hC⟩ := h
  have hy2 := hY1.1.of hF2 aFo_640_1 (fun j => rfl)
  refine e99_58 ?_
  rw [hy2.2.1.1, hy2.2.1.2.1]
  refine useC (upC (c3_1 (d := d) hy2 hyB hC (p := w 6) (q := w 7) (by omega) (by omega)) (by omega)) fun vs N3 h => ?_
  obtain ⟨rfl, hF3, hS⟩ := h
  have hy3 := hy2.of hF3 (by decide) (fun j => rfl)
  have hlo3 : LOC 1 (yW w (w 10)) (loY (yW w (w 10)) (kW w) (waW w ta 1)) N3 := fun l hl => by rw [(hF3 (1025 + 64 * 1) l rfl).1]; exact hlo l hl
  have hC3 : COE 1 (yW w (w 10)) C N3 := fun m hm => by rw [(hF3 (1027 + 64 * 1) m rfl).2.1]; exact hC m hm
  have hpa3 : PAY 1 f (yW w (w 10)) (paY (yW w (w 10)) (foW w (w 10) (cstW w)) (waW w ta 1) f) N3 := fun l hl => by rw [(hF3 (1026 + 64 * 1) _ rfl).1]; exact hpa f hf l hl
  refine e99_77 (useC (upC (c4_1 (d := d) hy3 hyB hlo3 loY_le hC3 hS (show f < 3 by omega) hpa3 (fun l hl => bd_i32 (bd_le (gnW_bd (v := waW w ta 1 l) hb w10 hf (show l ≤ 7 by have : yW w (w 10) 0 = w 0 := rfl; omega) (fun f => wbd_le)) (by decide)))) (by omega)) fun vs N4 h => ?_)
  obtain ⟨rfl, hF4, hu⟩ := h
  have e1 : N4.2.1 (1032 + 64 * 1) (f * 8 + l) = lz (uWo w (w 10) (waW w ta 1) f l) := by
    rw [hu l (show l < w 0 + 1 by omega), wth_uWo hb w10 hfl (by omega)]
  have e2 : N4.2.1 1 9 = lz (dtW w (w 10) (waW w ta 1)) := by
    rw [(hF4 1 9 rfl).2.1, hS.2.2, hb_dtW hfl]
  have e1' : N4.2.1 1096 (f * 8 + l) = lz (uWo w (w 10) (waW w ta 1) f l) := e1
  have hu2 := uWo_bd hb w10 (V := waW w ta 1) (fun l f => wbd_le) hf (show l < w 0 + 1 by omega)
  have hd2 := dtW_bd hb (r := w 10) (V := waW w ta 1)
  refine e99_83 ?_
  rw [nI_mul, nI_add, nI_c (by omega), e1', e2, lz_n 4, lz_mul]
  refine ⟨nI_in2 (by omega) (by decide), useC (upC (c125 (d := d) (bd_le hu2 (by omega)) (b := 4 * dtW w (w 10) (waW w ta 1)) ⟨by omega, by omega⟩ (by omega)) (by omega)) fun vs N5 h => ?_⟩
  obtain ⟨rfl, rfl⟩ := h
  exact e99_109 ⟨rfl, rfl, (((hF1.up aYr_cl).tr (hF2.up (aFo_cl (by omega)))).tr (hF3.up (aSe_cl (by omega)))).tr (hF4.up (aSof_cl (by omega)))⟩
theorem c99 (hT : TR 512 w ta M) (hb : WB w) {f l : Nat} {b g : Bool} (hf : f < w 8) (hl : l ≤ w 0) : SC (d + 6) 99 [.ref 704, .int (nI f), .int (nI l), .int (nI (cond b 1 0)), .int (nI (cond g 1 0))] M (fun vs N => vs = [.long (lz (woF w ta (cond b 1 0) f l g))] ∧ Fr aCl M N) := by
  cases b
  · exact c99_0 hT hb hf hl
  · exact c99_1 hT hb hf hl
end FW
