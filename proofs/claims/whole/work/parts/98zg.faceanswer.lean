/-! The class's face: answer, owner, owned. -/
theorem aOf_cl : ∀ k j, aOf k j = true → aCl k j = true := fun k j h => by
  unfold aOf aWish aPump at h
  simp only [Bool.or_eq_true, Bool.and_eq_true, Nat.beq_eq] at h
  exact aCl_t.mpr (by omega)
theorem aCx_cl : ∀ k j, aCx k j = true → aCl k j = true := fun k j h => by
  unfold aCx aCho at h
  rw [Bool.or_eq_true, aEv_t, Nat.beq_eq] at h
  exact aCl_t.mpr (by omega)
theorem aRule_cl : ∀ k j, aRule k j = true → aCl k j = true := fun k j h => by
  unfold aRule at h
  simp only [Bool.or_eq_true, Bool.and_eq_true, Nat.beq_eq] at h
  exact aCl_t.mpr (by omega)
theorem DG_bd {w : Nat → Nat} {ta : Nat → Nat → Nat → Nat} {fm : Int} (hb : WB w) (c : Nat → Nat) : 0 < DG w ta fm c ∧ DG w ta fm c ≤ 25600000000 :=
  dY_bd (yB_of hb (rBy_lt hb (fm := fm))) hb.2.2.1.2.1 hb.2.2.1.2.2 _
theorem UG_bd {w : Nat → Nat} {ta : Nat → Nat → Nat → Nat} {fm : Int} (hb : WB w) (h2 : fm < w 8) {c : Nat → Nat} (hc : ∀ l, c l < ncd w fm) {l : Nat} (hl : l ≤ w 0) : bd 3760128000000000 (UG w ta fm c l) :=
  uC_bd (yB_of hb (rBy_lt hb (fm := fm))) hb.2.2.1.2.1 hb.2.2.1.2.2 (rG_bd hb h2) hc hl
theorem FG_lt {w : Nat → Nat} {ta : Nat → Nat → Nat → Nat} {fm : Int} (hb : WB w) (l : Nat) : FG w ta fm l < ncd w fm := itC_lt (ncd_bd hb).1 _ l
theorem AG_lt {w : Nat → Nat} {ta : Nat → Nat → Nat → Nat} {fm : Int} (hb : WB w) (l : Nat) : AG w ta fm l < ncd w fm := bst_lt _ _ (ncd_bd hb).1
/-- what the owner of all has, from a level -/
def owF (w : Nat → Nat) (ta : Nat → Nat → Nat → Nat) (l : Nat) (g : Bool) : Int := frc (UG w ta (-1) (FG w ta (-1)) l) (4 * DG w ta (-1) (FG w ta (-1))) g
theorem YG_at {w : Nat → Nat} {f : Nat} : YG w (f : Int) = yW w (w 10) := by
  show yW w (rBy w (f : Int)) = _
  rw [rBy_at]
theorem YG_all {w : Nat → Nat} : YG w (-1) = yW w 0 := by
  show yW w (rBy w (-1)) = _
  rw [rBy_all]
section FC
variable {d : Nat} {M : Mm} {w : Nat → Nat} {ta : Nat → Nat → Nat → Nat}
theorem c6 (hb : WB w) {f l : Nat} (hf : f < w 8) (hl : l ≤ w 0) (hy : YR (YG w (f : Int)) (kW w) M) (hfo : FO (YG w (f : Int)) 41992 (foW w (w 10) (cstW w)) M) (hwa : WA (YG w (f : Int)) (waW w ta) M) : SC (d + 7) 6 [.ref 64, .int (nI f), .int (nI l)] M (fun vs N => vs = [.int (nI (AG w ta (f : Int) l))] ∧ Fr aCl M N ∧ Fr (fun k j => aOf k j || aCx k j) M N) := by
  obtain ⟨w0, w8, w9⟩ := wb_w hb
  have hyB := yB_of hb (rBy_lt hb (fm := (f : Int)))
  obtain ⟨hK0, hK1, -⟩ := ncd_bd hb (fm := (f : Int))
  refine sC (by decide) rfl (go_in (e6_0 (useC (upC (c7 (d := d) hb hf hy hfo hwa) (by omega)) fun vs N h => ?_)))
  obtain ⟨rfl, hF, hO⟩ := h
  refine e6_5 (useC (c9 (d := d) (hy.of hF aOf_640 (fun j => rfl)) hyB hK0 hK1 hO (rG_bd hb (by omega)) lG_7 (lG_y hb)) fun vs N2 h => ?_)
  obtain ⟨rfl, hF2, -, hC⟩ := h
  refine e6_9 ⟨nI_in2 (by omega) (by decide), ?_⟩
  rw [nI_c (by omega), hC l hl]
  exact ⟨rfl, rfl, (hF.up aOf_cl).tr (hF2.up aCx_cl), (hF.up fun k j h => by rw [h]; rfl).tr (hF2.up fun k j h => by rw [h, Bool.or_true])⟩
theorem c124 (hT : TR 512 w ta M) (hb : WB w) : SC (d + 7) 124 [.ref 704] M (fun vs N => vs = [] ∧ Fr aCl M N ∧ EVC (YG w (-1)) (w 6) (w 7) (rG w ta (-1)) (lG w ta (-1)) (FG w ta (-1)) N ∧ CHN (YG w (-1)) (AG w ta (-1)) N ∧ YR (YG w (-1)) (kW w) N ∧ N.2.1 0 9 = M.2.1 0 9) := by
  obtain ⟨w0, w8, w9⟩ := wb_w hb
  have w9' : 1 ≤ w 9 := hb.2.2.2.1.2.1.1
  have hyB : YB (yW w 0) (kW w) := yB_of hb (by omega)
  obtain ⟨hK0, hK1, -⟩ := ncd_bd hb (fm := -1)
  refine sC (by decide) rfl (go_in (e124_0 (useC (upC (c61 (d := d) hT hb) (by omega)) fun vs N h => ?_)))
  obtain ⟨rfl, hF, hY⟩ := h
  have hT1 := hT.of hF (yr_told (Or.inl rfl))
  refine e124_11 (useC (upC (c65 (d := d) (r := 0) hT1 hb hY.1.1.1 hY.1.1.2.2.1 (by omega)) (by omega)) fun vs N2 h => ?_)
  obtain ⟨rfl, hF2, h3, hfo, -⟩ := h
  have hy2 : YR (yW w 0) (kW w) N2 := by
    obtain ⟨⟨a, b, c, -⟩, ⟨e, f, g⟩, h⟩ := hY.1
    exact ⟨⟨by rw [(hF2 640 0 rfl).1]; exact a, by rw [(hF2 640 1 rfl).1]; exact b, by rw [(hF2 640 2 rfl).1]; exact c, h3⟩, ⟨by rw [(hF2 640 4 rfl).1]; exact e, by rw [(hF2 640 5 rfl).1]; exact f, by rw [(hF2 640 6 rfl).1]; exact g⟩, fun r hr => by
      rw [(hF2 41991 r rfl).1, h r hr]
      rcases r with _ | _ | _ | _ | r
      · rfl
      · rfl
      · rfl
      · rfl
      · omega⟩
  refine e124_23 (useC (upC (c8 (d := d) (ta := ta) hb hy2 hfo) (by omega)) fun vs N3 h => ?_)
  obtain ⟨rfl, hF3, hO⟩ := h
  have hy3 : YR (YG w (-1)) (kW w) N3 := by rw [YG_all]; exact hy2.of hF3 aOf_640 (fun j => rfl)
  have hyB : YB (YG w (-1)) (kW w) := by rw [YG_all]; exact hyB
  refine e124_30 (useC (c9 (d := d) (y := YG w (-1)) hy3 hyB hK0 hK1 hO (rG_bd hb (by omega)) lG_7 (lG_y hb)) fun vs N4 h => ?_)
  obtain ⟨rfl, hF4, hE, hC⟩ := h
  exact e124_37 ⟨rfl, rfl, (((hF.up aYr_cl).tr (hF2.up aRule_cl)).tr (hF3.up aOf_cl)).tr (hF4.up aCx_cl), hE, hC, hy3.of hF4 (fun j _ => rfl) (fun j => rfl), by rw [(hF4 0 9 rfl).2.1, (hF3 0 9 rfl).2.1, (hF2 0 9 rfl).2.1, (hF 0 9 rfl).2.1]⟩
theorem c103 (hT : TR 512 w ta M) (hb : WB w) {f l : Nat} (hf : f < w 8) (hl : l ≤ w 0) : SC (d + 8) 103 [.ref 704, .int (nI f), .int (nI l)] M (fun vs N => vs = [.int (nI (AG w ta (f : Int) l))] ∧ Fr aCl M N) := by
  obtain ⟨w0, w8, w9⟩ := wb_w hb
  refine sC (by decide) rfl (go_in (e103_0 (Or.inl ?_)))
  rw [iz_n f]
  refine useC (upC (c117 (d := d) hT hb ⟨by omega, by omega⟩ ⟨by omega, by omega⟩) (by omega)) fun vs N h => ?_
  obtain ⟨rfl, rfl⟩ := h
  refine e103_5 (Or.inl ?_)
  rw [iz_n l]
  refine useC (upC (c118 (d := d) hT hb ⟨by omega, by omega⟩ ⟨by omega, by omega⟩) (by omega)) fun vs N h => ?_
  obtain ⟨rfl, rfl⟩ := h
  rw [iz_nn, iz_nn]
  refine e103_10 (useC (upC (c61 (d := d) hT hb) (by omega)) fun vs N1 h => ?_)
  obtain ⟨rfl, hF1, hY1⟩ := h
  have hr := rBy_at (w := w) (f := f)
  refine e103_21 (useC (c6 (d := d) (ta := ta) hb hf hl (by rw [YG_at]; exact hY1.1) (by rw [YG_at]; exact hY1.2.1) (by rw [YG_at]; exact hY1.2.2.2)) fun vs N2 h => ?_)
  obtain ⟨rfl, hF2, -⟩ := h
  exact e103_30 ⟨rfl, rfl, (hF1.up aYr_cl).tr hF2⟩
theorem c105 (hT : TR 512 w ta M) (hb : WB w) {f l : Nat} (hf : f < w 8) (hl : l ≤ w 0) : SC (d + 8) 105 [.ref 704, .int (nI f), .int (nI l)] M (fun vs N => vs = [.int (nI (wnr (w 8) (AG w ta (-1) l) f))] ∧ Fr aCl M N) := by
  obtain ⟨w0, w8, w9⟩ := wb_w hb
  have w9' : 1 ≤ w 9 := hb.2.2.2.1.2.1.1
  refine sC (by decide) rfl (go_in (e105_0 (Or.inl ?_)))
  rw [iz_n f]
  refine useC (upC (c117 (d := d) hT hb ⟨by omega, by omega⟩ ⟨by omega, by omega⟩) (by omega)) fun vs N h => ?_
  obtain ⟨rfl, rfl⟩ := h
  refine e105_5 (Or.inl ?_)
  rw [iz_n l]
  refine useC (upC (c118 (d := d) hT hb ⟨by omega, by omega⟩ ⟨by omega, by omega⟩) (by omega)) fun vs N h => ?_
  obtain ⟨rfl, rfl⟩ := h
  rw [iz_nn, iz_nn]
  refine e105_10 (useC (c124 (d := d) hT hb) fun vs N1 h => ?_)
  obtain ⟨rfl, hF1, -, hC, hy, -⟩ := h
  have hyB : YB (YG w (-1)) (kW w) := by rw [YG_all]; exact yB_of hb (by omega)
  have hlt := AG_lt (w := w) (ta := ta) (fm := -1) hb l
  have hK := (ncd_bd hb (fm := -1)).2.1
  refine e105_14 ⟨nI_in2 (by omega) (by decide), ?_⟩
  rw [nI_c (by omega), hC l hl]
  refine useC (upC (c76 (d := d) hy hyB (w := AG w ta (-1) l) (by omega) (show f < yW w 0 2 from hf)) (by omega)) fun vs N2 h => ?_
  obtain ⟨rfl, rfl⟩ := h
  exact e105_31 ⟨rfl, rfl, hF1⟩
theorem c106 (hT : TR 512 w ta M) (hb : WB w) {l : Nat} {g : Bool} (hl : l ≤ w 0) : SC (d + 8) 106 [.ref 704, .int (nI l), .int (nI (cond g 1 0))] M (fun vs N => vs = [.long (lz (owF w ta l g))] ∧ Fr aCl M N) := by
  obtain ⟨w0, w8, w9⟩ := wb_w hb
  refine sC (by decide) rfl (go_in (e106_0 (Or.inl ?_)))
  rw [iz_n l]
  refine useC (upC (c118 (d := d) hT hb ⟨by omega, by omega⟩ ⟨by omega, by omega⟩) (by omega)) fun vs N h => ?_
  obtain ⟨rfl, rfl⟩ := h
  rw [iz_nn]
  refine e106_5 (useC (c124 (d := d) hT hb) fun vs N1 h => ?_)
  obtain ⟨rfl, hF1, hE, -⟩ := h
  have hu := UG_bd (ta := ta) (fm := -1) hb (by omega) (FG_lt (ta := ta) hb) hl
  have hd := DG_bd (ta := ta) (fm := -1) hb (FG w ta (-1))
  have e1 : N1.2.1 2 9 = lz (DG w ta (-1) (FG w ta (-1))) := hE.1
  have e2 : N1.2.1 1160 l = lz (UG w ta (-1) (FG w ta (-1)) l) := hE.2.2.1 l hl
  refine e106_9 ⟨nI_in2 (by omega) (by decide), ?_⟩
  rw [nI_c (by omega), e2, e1, lz_n 4, lz_mul]
  refine useC (upC (c125 (d := d) (bd_le hu (by decide)) (b := 4 * DG w ta (-1) (FG w ta (-1))) ⟨by omega, by omega⟩ (by omega)) (by omega)) fun vs N5 h => ?_
  obtain ⟨rfl, rfl⟩ := h
  exact e106_39 ⟨rfl, rfl, hF1⟩
end FC
